/-! a method's entry -/
def z_al : Nat → List z_V → List (Option z_V)
  | n, [] => List.replicate n none
  | 0, _ :: _ => []
  | 1, v :: _ => [some v]
  | n + 2, .inr (.inl x) :: l => some (.inr (.inl x)) :: none :: z_al n l
  | n + 2, v :: l => some v :: z_al (n + 1) l
theorem z_en_rep (e : z_E) : ∀ (n i : Nat), z_en e i (List.replicate n none) = []
  | 0, i => rfl
  | n + 1, i => by rw [List.replicate_succ, z_en]; exact z_en_rep e n (i + 1)
theorem z_al_in (e : z_E) : ∀ (args : List z_V) (n i : Nat), ∀ q ∈ z_en e i (z_al n args), q ∈ lv_args i (args.map (z_vv e))
  | [], n, i, q, h => by
    have : z_al n [] = List.replicate n none := by cases n <;> rfl
    rw [this, z_en_rep] at h; cases h
  | v :: l, 0, i, q, h => by cases h
  | v :: l, 1, i, q, h => by
    rcases List.mem_cons.mp h with rfl | h
    · exact List.mem_cons_self
    · cases h
  | .inr (.inl x) :: l, n + 2, i, q, h => by
    rcases List.mem_cons.mp h with rfl | h
    · exact List.mem_cons_self
    · exact List.mem_cons_of_mem _ (z_al_in e l n (i + 2) q h)
  | .inl x :: l, n + 2, i, q, h => by
    rcases List.mem_cons.mp h with rfl | h
    · exact List.mem_cons_self
    · exact List.mem_cons_of_mem _ (z_al_in e l (n + 1) (i + 1) q h)
  | .inr (.inr x) :: l, n + 2, i, q, h => by
    rcases List.mem_cons.mp h with rfl | h
    · exact List.mem_cons_self
    · have hc : (z_vv e (.inr (.inr x))).category = 1 := z_cat2 (by intro x h; cases h)
      refine List.mem_cons_of_mem _ ?_
      show q ∈ lv_args (if (z_vv e (.inr (.inr x))).category = 2 then i + 2 else i + 1) _
      rw [hc]
      exact z_al_in e l (n + 1) (i + 1) q h
theorem z_sl_len (e : z_E) : ∀ (args : List z_V), (lg_sl (args.map (z_vv e))).length = z_cat args
  | [] => rfl
  | .inl x :: l => by
    have := z_sl_len e l
    simp only [lg_sl, List.map_cons, List.flatMap_cons, List.length_append, z_cat] at this ⊢
    rw [this, if_neg (by rw [z_cat2 (by intro x h; cases h)]; decide)]
    simp only [List.length_cons, List.length_nil]; omega
  | .inr (.inl x) :: l => by
    have := z_sl_len e l
    simp only [lg_sl, List.map_cons, List.flatMap_cons, List.length_append, z_cat] at this ⊢
    rw [this, if_pos (show (z_vv e (.inr (.inl x))).category = 2 from rfl)]
    simp only [List.length_cons, List.length_nil]; omega
  | .inr (.inr x) :: l => by
    have := z_sl_len e l
    simp only [lg_sl, List.map_cons, List.flatMap_cons, List.length_append, z_cat] at this ⊢
    rw [this, if_neg (by rw [z_cat2 (by intro x h; cases h)]; decide)]
    simp only [List.length_cons, List.length_nil]; omega
theorem z_al_rg : ∀ (args : List z_V) (n : Nat), z_rS args → z_rL (z_al n args)
  | [], n, h => fun v hv => by
    have : z_al n [] = List.replicate n none := by cases n <;> rfl
    rw [this] at hv
    have := List.eq_of_mem_replicate hv
    cases this
  | v :: l, 0, h => fun v hv => by cases hv
  | v :: l, 1, h => fun u hv => by
    have hu : u = v := by simpa [z_al] using hv
    subst hu; exact h _ List.mem_cons_self
  | .inr (.inl x) :: l, n + 2, h => fun u hv => by
    rcases List.mem_cons.mp hv with hv | hv
    · cases hv; exact h _ List.mem_cons_self
    · rcases List.mem_cons.mp hv with hv | hv
      · cases hv
      · exact z_al_rg l n (fun v q => h v (List.mem_cons_of_mem _ q)) u hv
  | .inl x :: l, n + 2, h => fun u hv => by
    rcases List.mem_cons.mp hv with hv | hv
    · cases hv; exact h _ List.mem_cons_self
    · exact z_al_rg l (n + 1) (fun v q => h v (List.mem_cons_of_mem _ q)) u hv
  | .inr (.inr x) :: l, n + 2, h => fun u hv => by
    rcases List.mem_cons.mp hv with hv | hv
    · cases hv; exact h _ List.mem_cons_self
    · exact z_al_rg l (n + 1) (fun v q => h v (List.mem_cons_of_mem _ q)) u hv
section ZE
variable {e : z_E} {ph : Bool}
theorem z_Y_of {d y N N' : Nat} {args : List z_V} {σ : z_M} {Q : Int → z_M → Prop} (hp : plainName (z_hd y).1.cls = true) (hc : z_cat args ≤ (z_hd y).2.2.1) (hN : N ≤ N') (h : z_X e ph d y N N' 0 (z_al (z_hd y).2.2.1 args) [] N σ Q) : z_Y e ph (d + 1) y args N N' σ Q := by
  intro rA rM
  refine ⟨d, rfl, hN, Met.ofW (cc := (z_hd y).2.1) (maxL := (z_hd y).2.2.1) (ret := (z_hd y).2.2.2.1) hp rfl ?_⟩
  intro p env s m av below meth c s₁ B hml hv
  obtain ⟨rfl, hKS, R⟩ := hv
  have hts := atoms_spec (ws := z_ws y) B.pre
  have hl := lv_entry (args.map (z_vv e)) (n := (z_hd y).2.2.1) (by rw [z_sl_len]; exact hc)
  rw [lg_entry_eq]
  have hk := h (z_al_rg _ _ rA) (fun v hv => by cases hv) rM p env s m _ below meth c s.heap [] _ ⟨B.exec, B.bytes, B.returns, hml, findClass_of_methodNamed B.named, fun w hw => hts w (List.mem_cons_of_mem _ hw), B.notSynchronized, (name_of_methodNamed B.named B.method).1, hKS⟩ R (Nat.le_refl _) hN (z_has_sub hl (z_al_in e args _ 0))
  rw [Nat.sub_self, Nat.sub_self] at hk
  exact hk
end ZE
/-! weakest preconditions of a piece of code, up to the places where it is cut -/
/-- an instruction: its place in the code, its pc, whether the code is cut here, the locals that live at a cut, the instruction, its length, its numbers, the places of its words -/
abbrev z_In : Type := Nat × Nat × Bool × List Bool × Instr × Nat × List Nat × List Nat
abbrev z_K : Type := List z_In → List (Option z_V) → List z_V → Nat → z_M → Prop
def z_msk : List Bool → List (Option z_V) → List (Option z_V)
  | _, [] => []
  | [], l => l
  | b :: bs, a :: l => (cond b a none) :: z_msk bs l
def z_sw (c : Nat → Prop) (x : Int) : List (Int × Nat) → Nat → Prop
  | [], t => c t
  | (v, t) :: l, t' => (x = v → c t) ∧ (¬ x = v → z_sw c x l t')
def z_tpl : Int → List Nat → List (Int × Nat)
  | _, [] => []
  | lo, t :: ts => (lo, t) :: z_tpl (lo + 1) ts
def z_lpl : List (Int × Int) → List Nat → List (Int × Nat)
  | [], _ => []
  | _ :: _, [] => []
  | p :: ps, t :: ts => (p.1, t) :: z_lpl ps ts
def z_ck (b : Bool) (P : Prop) : Prop := match b with
  | true => P
  | false => False
/-- what may be written into a field, and what follows -/
def z_fwk (ph : Bool) (t : Nat) (v : z_V) (P : Prop) : Prop := match t, v with
  | 0, .inl _ => P
  | 1, .inr (.inr x) => z_ir x ∧ P
  | 2, .inr (.inr x) => ph = false ∧ z_ir x ∧ P
  | 3, .inl x => (x = 0 ∨ x = 1) ∧ P
  | _, _ => False
/-- the stack behind a call: 0 nothing, 1 an int, 2 a long, 3 a reference -/
def z_r2 (rc : Nat) (r : Int) (st : List z_V) : List z_V := match rc with
  | 0 => st
  | 1 => z_I r :: st
  | 2 => z_J r :: st
  | _ => z_R r :: st
/-- arguments off the stack, the last first -/
def z_pop : Nat → List z_V → List z_V → Option (List z_V × List z_V)
  | 0, as, st => some (as, st)
  | _ + 1, _, [] => none
  | n + 1, as, v :: st => z_pop n (v :: as) st
section ZW
variable (e : z_E) (ph : Bool) (d y Ni No : Nat) (Q : Int → z_M → Prop) (full : List z_In)
def z_call (y' rc gr : Nat) (c : z_K) (r : List z_In) (ls : List (Option z_V)) (as st' : List z_V) (N : Nat) (σ : z_M) : Prop :=
  z_ck (Nat.ble (z_cat st') 8 && Nat.ble (N + gr) No) (z_Y e ph d y' as N (N + gr) σ (fun v σ' => c r ls (z_r2 rc v st') (N + gr) σ'))
def z_step (c : z_K) (i : z_In) (r : List z_In) (ls : List (Option z_V)) (st : List z_V) (N : Nat) (σ : z_M) : Prop :=
  match i.2.2.2.2.1, i.2.2.2.2.2.2.1, st with
  | .iconst n, _, st => c r ls (z_I n :: st) N σ
  | .bipush n, _, st => c r ls (z_I n :: st) N σ
  | .sipush n, _, st => c r ls (z_I n :: st) N σ
  | .ldc _, [n], st => c r ls (z_I (n : Int) :: st) N σ
  | .ldc2_w _, [n, s], st => c r ls (z_J (cond (s == 0) (n : Int) (-(n : Int))) :: st) N σ
  | .lconst k, [n], st => c r ls (z_J (n : Int) :: st) N σ
  | .aconst_null, _, st => c r ls (z_R (-1) :: st) N σ
  | .iload_n k, _, st => (match z_nth ls (k : Nat) with | some (.inl x) => c r ls (z_I x :: st) N σ | _ => False)
  | .iload k, _, st => (match z_nth ls k with | some (.inl x) => c r ls (z_I x :: st) N σ | _ => False)
  | .lload_n k, _, st => (match z_nth ls (k : Nat) with | some (.inr (.inl x)) => c r ls (z_J x :: st) N σ | _ => False)
  | .lload k, _, st => (match z_nth ls k with | some (.inr (.inl x)) => c r ls (z_J x :: st) N σ | _ => False)
  | .aload_n k, _, st => (match z_nth ls (k : Nat) with | some (.inr (.inr x)) => c r ls (z_R x :: st) N σ | _ => False)
  | .aload k, _, st => (match z_nth ls k with | some (.inr (.inr x)) => c r ls (z_R x :: st) N σ | _ => False)
  | .istore_n k, _, .inl x :: st => c r (z_set ls k (z_I x)) st N σ
  | .istore k, _, .inl x :: st => c r (z_set ls k (z_I x)) st N σ
  | .lstore k, _, .inr (.inl x) :: st => c r (z_clr (z_set ls k (z_J x)) (k + 1)) st N σ
  | .astore_n k, _, .inr (.inr x) :: st => c r (z_set ls k (z_R x)) st N σ
  | .astore k, _, .inr (.inr x) :: st => c r (z_set ls k (z_R x)) st N σ
  | .iinc k n, _, st => (match z_nth ls k with | some (.inl x) => c r (z_set ls k (z_I (z_wr (x + n)))) st N σ | _ => False)
  | .iadd, _, .inl b :: .inl a :: st => c r ls (z_I (z_wr (a + b)) :: st) N σ
  | .isub, _, .inl b :: .inl a :: st => c r ls (z_I (z_wr (a - b)) :: st) N σ
  | .imul, _, .inl b :: .inl a :: st => c r ls (z_I (z_wr (a * b)) :: st) N σ
  | .idiv, _, .inl b :: .inl a :: st => (¬ b = 0) ∧ c r ls (z_I (z_wr (a.tdiv b)) :: st) N σ
  | .irem, _, .inl b :: .inl a :: st => (¬ b = 0) ∧ c r ls (z_I (z_wr (a - a.tdiv b * b)) :: st) N σ
  | .iand, _, .inl b :: .inl a :: st => c r ls (z_I (z_and a b) :: st) N σ
  | .ior, _, .inl b :: .inl a :: st => c r ls (z_I (z_or a b) :: st) N σ
  | .ishl, _, .inl b :: .inl a :: st => c r ls (z_I (z_shl a b) :: st) N σ
  | .ishr, _, .inl b :: .inl a :: st => c r ls (z_I (z_shr a b) :: st) N σ
  | .ineg, _, .inl a :: st => c r ls (z_I (z_wr (-a)) :: st) N σ
  | .ladd, _, .inr (.inl b) :: .inr (.inl a) :: st => c r ls (z_J (z_wl (a + b)) :: st) N σ
  | .lsub, _, .inr (.inl b) :: .inr (.inl a) :: st => c r ls (z_J (z_wl (a - b)) :: st) N σ
  | .lmul, _, .inr (.inl b) :: .inr (.inl a) :: st => c r ls (z_J (z_wl (a * b)) :: st) N σ
  | .ldiv, _, .inr (.inl b) :: .inr (.inl a) :: st => (¬ b = 0) ∧ c r ls (z_J (z_wl (a.tdiv b)) :: st) N σ
  | .lcmp, _, .inr (.inl b) :: .inr (.inl a) :: st => c r ls (z_I (z_lcmp a b) :: st) N σ
  | .i2l, _, .inl a :: st => c r ls (z_J a :: st) N σ
  | .l2i, _, .inr (.inl a) :: st => c r ls (z_I (z_wr a) :: st) N σ
  | .dup, _, .inl a :: st => c r ls (z_I a :: z_I a :: st) N σ
  | .dup, _, .inr (.inr a) :: st => c r ls (z_R a :: z_R a :: st) N σ
  | .dup2, _, .inl b :: .inr (.inr a) :: st => c r ls (z_I b :: z_R a :: z_I b :: z_R a :: st) N σ
  | .dup2, _, .inl b :: .inl a :: st => c r ls (z_I b :: z_I a :: z_I b :: z_I a :: st) N σ
  | .pop, _, .inl a :: st => c r ls st N σ
  | .pop, _, .inr (.inr a) :: st => c r ls st N σ
  | .goto _, [t], st => c (full.drop t) ls st N σ
  | .ifCond .eq _, [t], .inl x :: st => (x = 0 → c (full.drop t) ls st N σ) ∧ (¬ x = 0 → c r ls st N σ)
  | .ifCond .ne _, [t], .inl x :: st => (¬ x = 0 → c (full.drop t) ls st N σ) ∧ (x = 0 → c r ls st N σ)
  | .ifCond .lt _, [t], .inl x :: st => (x < 0 → c (full.drop t) ls st N σ) ∧ (0 ≤ x → c r ls st N σ)
  | .ifCond .ge _, [t], .inl x :: st => (0 ≤ x → c (full.drop t) ls st N σ) ∧ (x < 0 → c r ls st N σ)
  | .ifCond .gt _, [t], .inl x :: st => (0 < x → c (full.drop t) ls st N σ) ∧ (x ≤ 0 → c r ls st N σ)
  | .ifCond .le _, [t], .inl x :: st => (x ≤ 0 → c (full.drop t) ls st N σ) ∧ (0 < x → c r ls st N σ)
  | .if_icmp .eq _, [t], .inl b :: .inl x :: st => (x = b → c (full.drop t) ls st N σ) ∧ (¬ x = b → c r ls st N σ)
  | .if_icmp .ne _, [t], .inl b :: .inl x :: st => (¬ x = b → c (full.drop t) ls st N σ) ∧ (x = b → c r ls st N σ)
  | .if_icmp .lt _, [t], .inl b :: .inl x :: st => (x < b → c (full.drop t) ls st N σ) ∧ (b ≤ x → c r ls st N σ)
  | .if_icmp .ge _, [t], .inl b :: .inl x :: st => (b ≤ x → c (full.drop t) ls st N σ) ∧ (x < b → c r ls st N σ)
  | .if_icmp .gt _, [t], .inl b :: .inl x :: st => (b < x → c (full.drop t) ls st N σ) ∧ (x ≤ b → c r ls st N σ)
  | .if_icmp .le _, [t], .inl b :: .inl x :: st => (x ≤ b → c (full.drop t) ls st N σ) ∧ (b < x → c r ls st N σ)
  | .ifnull _, [t], .inr (.inr x) :: st => (x < 0 → c (full.drop t) ls st N σ) ∧ (0 ≤ x → c r ls st N σ)
  | .ifnonnull _, [t], .inr (.inr x) :: st => (0 ≤ x → c (full.drop t) ls st N σ) ∧ (x < 0 → c r ls st N σ)
  | .if_acmp .eq _, [t], .inr (.inr b) :: .inr (.inr x) :: st => (0 ≤ x ∧ 0 ≤ b) ∧ (x = b → c (full.drop t) ls st N σ) ∧ (¬ x = b → c r ls st N σ)
  | .if_acmp .ne _, [t], .inr (.inr b) :: .inr (.inr x) :: st => (0 ≤ x ∧ 0 ≤ b) ∧ (¬ x = b → c (full.drop t) ls st N σ) ∧ (x = b → c r ls st N σ)
  | .tableswitch _ lo _ _, td :: ts, .inl x :: st => z_sw (fun t => c (full.drop t) ls st N σ) x (z_tpl lo ts) td
  | .lookupswitch _ ps, td :: ts, .inl x :: st => z_sw (fun t => c (full.drop t) ls st N σ) x (z_lpl ps.toList ts) td
  | .getfield _, [ci, j], .inr (.inr x) :: st => z_ck (z_ok N (ci + 1) x) (c r ls (z_fr ph (ci + 1) j x σ :: st) N σ)
  | .putfield _, [ci, j], v :: .inr (.inr x) :: st => z_ck (z_ok N (ci + 1) x) (z_fwk ph (z_ft (ci + 1) j) v (c r ls st N (z_up σ x j (z_un v))))
  | .iaload, [kd], .inl i :: .inr (.inr x) :: st => z_ck (z_ok N kd x) ((0 ≤ i ∧ i < ((kd % 100000 : Nat) : Int)) ∧ c r ls (z_I (σ x i) :: st) N σ)
  | .baload, [kd], .inl i :: .inr (.inr x) :: st => z_ck (z_ok N kd x) ((0 ≤ i ∧ i < ((kd % 100000 : Nat) : Int)) ∧ c r ls (z_I (σ x i) :: st) N σ)
  | .aaload, [kd], .inl i :: .inr (.inr x) :: st => z_ck (z_ok N kd x) ((0 ≤ i ∧ i < ((kd % 100000 : Nat) : Int)) ∧ c r ls (z_R (z_ar ph (kd / 100000) x i σ) :: st) N σ)
  | .arraylength, [kd], .inr (.inr x) :: st => z_ck (z_ok N kd x) (c r ls (z_I ((kd % 100000 : Nat) : Int) :: st) N σ)
  | .iastore, [kd], .inl v :: .inl i :: .inr (.inr x) :: st => z_ck (z_ok N kd x) ((0 ≤ i ∧ i < ((kd % 100000 : Nat) : Int)) ∧ c r ls st N (z_up σ x i v))
  | .bastore, [kd], .inl v :: .inl i :: .inr (.inr x) :: st => z_ck (z_ok N kd x) ((0 ≤ i ∧ i < ((kd % 100000 : Nat) : Int)) ∧ (v = 0 ∨ v = 1) ∧ c r ls st N (z_up σ x i v))
  | .aastore, [kd, ci], .inr (.inr v) :: .inl i :: .inr (.inr x) :: st => z_ck (z_ok N kd x && (!ph || kd / 100000 == 6)) ((0 ≤ i ∧ i < ((kd % 100000 : Nat) : Int)) ∧ (v < 0 ∨ z_ok N (ci + 1) v = true) ∧ z_ir v ∧ c r ls st N (z_up σ x i v))
  | .newarray .int, [n], .inl a :: st => a = (n : Int) ∧ z_ck (!ph && (z_knd (N : Int) == 100000 + n) && Nat.ble (N + 1) No && Nat.ble (n + 1) 100000) (c r ls (z_R (N : Int) :: st) (N + 1) (z_nu σ (N : Int) (100000 + n)))
  | .newarray .boolean, [n], .inl a :: st => a = (n : Int) ∧ z_ck (!ph && (z_knd (N : Int) == 200000 + n) && Nat.ble (N + 1) No && Nat.ble (n + 1) 100000) (c r ls (z_R (N : Int) :: st) (N + 1) (z_nu σ (N : Int) (200000 + n)))
  | .anewarray _, [n, tag], .inl a :: st => a = (n : Int) ∧ z_ck (!ph && (z_knd (N : Int) == tag * 100000 + n) && Nat.ble (N + 1) No && Nat.ble (n + 1) 100000) (c r ls (z_R (N : Int) :: st) (N + 1) (z_nu σ (N : Int) (tag * 100000 + n)))
  | .new _, [ci], st => z_ck (!ph && (z_knd (N : Int) == ci + 1) && Nat.ble (N + 1) No) (c r ls (z_R (N : Int) :: st) (N + 1) (z_nu σ (N : Int) (ci + 1)))
  | .invokevirtual _, [y', na, rc, gr, kd], st => (match z_pop (na + 1) [] st with
    | some (.inr (.inr b) :: as, st') => z_ck (z_ok N kd b) (z_call e ph d No y' rc gr c r ls (z_R b :: as) st' N σ)
    | _ => False)
  | .invokestatic _, [k0, k1], .inl n :: .inl dp :: .inr (.inr dst) :: .inl sp :: .inr (.inr src) :: st => z_ck (ph && z_ok N k0 src && z_ok N k1 dst && Nat.ble (z_cat st) 8) ((1 ≤ d ∧ 0 ≤ sp ∧ 0 ≤ dp ∧ 0 ≤ n ∧ sp + n ≤ ((k0 % 100000 : Nat) : Int) ∧ dp + n ≤ ((k1 % 100000 : Nat) : Int)) ∧ (k0 / 100000 = 2 → ∀ i : Int, 0 ≤ i → i < ((k0 % 100000 : Nat) : Int) → σ src i = 0 ∨ σ src i = 1) ∧ c r ls st N (z_cp σ src sp dst dp n))
  | .invokestatic _, [], .inl x :: st => z_ck (Nat.ble (z_cat st) 8) (1 ≤ d ∧ c r ls (z_I (z_abs x) :: st) N σ)
  | .invokestatic _, [y', na, rc, gr, _], st => (match z_pop na [] st with
    | some (as, st') => z_call e ph d No y' rc gr c r ls as st' N σ
    | none => False)
  | .invokestatic _, [y', na, rc, gr], st => (match z_pop na [] st with
    | some (as, st') => z_call e ph d No y' rc gr c r ls as st' N σ
    | none => False)
  | .invokespecial _, [], .inr (.inr x) :: st => z_ck (Nat.ble (z_cat st) 8) (1 ≤ d ∧ 0 ≤ x ∧ c r ls st N σ)
  | .invokespecial _, [y', na, rc, gr, _], st => (match z_pop (na + 1) [] st with
    | some (.inr (.inr b) :: as, st') => 0 ≤ b ∧ z_call e ph d No y' rc gr c r ls (z_R b :: as) st' N σ
    | _ => False)
  | .invokespecial _, [y', na, rc, gr], st => (match z_pop (na + 1) [] st with
    | some (.inr (.inr b) :: as, st') => 0 ≤ b ∧ z_call e ph d No y' rc gr c r ls (z_R b :: as) st' N σ
    | _ => False)
  | .return_, _, [] => z_ck (N == No) (Q 0 σ)
  | .ireturn, [0], [.inl x] => z_ck (N == No) (Q x σ)
  | .ireturn, [1], [.inl x] => z_ck (N == No) (z_ck (x == 0 || x == 1) (Q x σ))
  | .lreturn, _, [.inr (.inl x)] => z_ck (N == No) (Q x σ)
  | .areturn, _, [.inr (.inr x)] => z_ck (N == No) (Q x σ)
  | _, _, _ => False
/-- up to the cuts -/
def z_wp : Nat → z_K
  | 0, r, ls, st, N, σ => (match r with | i :: _ => z_X e ph d y Ni No i.2.1 ls st N σ Q | [] => False)
  | k + 1, r, ls, st, N, σ => (match r with
    | i :: r => (match i.2.2.1 with | true => z_X e ph d y Ni No i.2.1 (z_msk i.2.2.2.1 ls) st N σ Q | false => z_step e ph d No Q full (z_wp k) i r ls st N σ)
    | [] => False)
/-- from a place on, which may be a cut itself -/
def z_w1 (k ix : Nat) (ls : List (Option z_V)) (st : List z_V) (N : Nat) (σ : z_M) : Prop := match full.drop ix with
  | i :: r => z_step e ph d No Q full (z_wp e ph d y Ni No Q full k) i r ls st N σ
  | [] => False
end ZW
