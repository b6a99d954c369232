/-! bits of ints -/
def z_bb (x : Int) (i : Nat) : Bool := (Int32.ofInt x).toBitVec.getLsbD i
theorem z_bb_or (x y : Int) (i : Nat) : z_bb (z_or x y) i = (z_bb x i || z_bb y i) := by
  unfold z_bb z_or
  rw [Int32.ofInt_toInt, Int32.toBitVec_or, BitVec.getLsbD_or]
theorem z_bb_and (x y : Int) (i : Nat) : z_bb (z_and x y) i = (z_bb x i && z_bb y i) := by
  unfold z_bb z_and
  rw [Int32.ofInt_toInt, Int32.toBitVec_and, BitVec.getLsbD_and]
theorem z_bb_ext {x y : Int} (hx : z_ir x) (hy : z_ir y) (h : ∀ i, i < 32 → z_bb x i = z_bb y i) : x = y := by
  have e : Int32.ofInt x = Int32.ofInt y := Int32.toBitVec_inj.mp (BitVec.eq_of_getLsbD_eq (fun i hi => h i hi))
  exact (z_eq hx hy).mp e
theorem z_bb_one : ∀ i, i < 32 → z_bb 1 i = decide (i = 0) := by decide +kernel
theorem z_bb_zero : ∀ i, i < 32 → z_bb 0 i = false := by decide +kernel
theorem z_bb_shl1 : ∀ b, b < 32 → ∀ i, i < 32 → z_bb (z_shl 1 (b : Nat)) i = decide (i = b) := by decide +kernel
theorem z_sl_ : ∀ n, n < 32 → ((Int32.ofInt (n : Nat) &&& 31).toBitVec.smod 32).toNat = n := by decide +kernel
theorem z_bb_shr (b : Nat) (hb : b < 32) (x : Int) {i : Nat} (hi : i < 32) : z_bb (z_shr x b) i = if b + i < 32 then z_bb x (b + i) else z_bb x 31 := by
  unfold z_bb z_shr
  rw [Int32.ofInt_toInt, Int32.toBitVec_shiftRight]
  show ((Int32.ofInt x).toBitVec.sshiftRight ((Int32.ofInt (b : Nat) &&& 31).toBitVec.smod 32).toNat).getLsbD i = _
  rw [z_sl_ b hb, BitVec.getLsbD_sshiftRight, BitVec.msb_eq_getLsbD_last]
  simp [hi]
theorem z_and_ir (x y : Int) : z_ir (z_and x y) := z_toir _
theorem z_or_ir (x y : Int) : z_ir (z_or x y) := z_toir _
theorem z_shl_ir (x y : Int) : z_ir (z_shl x y) := z_toir _
theorem z_shr_ir (x y : Int) : z_ir (z_shr x y) := z_toir _
/-- the reference's look at a bit -/
theorem z_bt_M {u b : Int} (h0 : 0 ≤ b) (h1 : b < 32) : z_and (z_shr u b) 1 = 1 ↔ z_bb u b.toNat = true := by
  obtain ⟨n, rfl⟩ : ∃ n : Nat, b = (n : Int) := ⟨b.toNat, by omega⟩
  have hn : n < 32 := by omega
  rw [Int.toNat_natCast]
  have e0 : ∀ i, i < 32 → z_bb (z_and (z_shr u n) 1) i = (decide (i = 0) && z_bb u n) := fun i hi => by
    rw [z_bb_and, z_bb_one i hi, z_bb_shr n hn u hi]
    by_cases h : i = 0
    · subst h; simp [hn]
    · simp [h]
  constructor
  · intro h
    have := e0 0 (by omega)
    rw [h, z_bb_one 0 (by omega)] at this
    simpa using this.symm
  · intro h
    refine z_bb_ext (z_and_ir _ _) (by unfold z_ir; omega) (fun i hi => ?_)
    rw [e0 i hi, z_bb_one i hi, h, Bool.and_true]
/-- the class's look at a bit -/
theorem z_bt_C {u b : Int} (h0 : 0 ≤ b) (h1 : b < 32) : z_and u (z_shl 1 b) = 0 ↔ z_bb u b.toNat = false := by
  obtain ⟨n, rfl⟩ : ∃ n : Nat, b = (n : Int) := ⟨b.toNat, by omega⟩
  have hn : n < 32 := by omega
  rw [Int.toNat_natCast]
  have e0 : ∀ i, i < 32 → z_bb (z_and u (z_shl 1 n)) i = (decide (i = n) && z_bb u n) := fun i hi => by
    rw [z_bb_and, z_bb_shl1 n hn i hi]
    by_cases h : i = n
    · subst h; simp
    · simp [h]
  constructor
  · intro h
    have := e0 n hn
    rw [h, z_bb_zero n hn] at this
    simpa using this.symm
  · intro h
    refine z_bb_ext (z_and_ir _ _) (by unfold z_ir; omega) (fun i hi => ?_)
    rw [e0 i hi, z_bb_zero i hi, h, Bool.and_false]
theorem z_bb_sh {b : Int} (h0 : 0 ≤ b) (h1 : b < 32) {i : Nat} (hi : i < 32) : z_bb (z_shl 1 b) i = decide (i = b.toNat) := by
  obtain ⟨n, rfl⟩ : ∃ n : Nat, b = (n : Int) := ⟨b.toNat, by omega⟩
  rw [Int.toNat_natCast]
  exact z_bb_shl1 n (by omega) i hi
/-- codes of the class -/
theorem z_cd_ : ∀ n, n < 2048 → z_shr (n : Nat) 4 = ((n / 16 : Nat) : Int) ∧ z_and (n : Nat) 15 = ((n % 16 : Nat) : Int) := by decide +kernel
theorem z_cd {x : Int} (h0 : 0 ≤ x) (h1 : x < 2048) : z_shr x 4 = x / 16 ∧ z_and x 15 = x % 16 := by
  obtain ⟨n, rfl⟩ : ∃ n : Nat, x = (n : Int) := ⟨x.toNat, by omega⟩
  have := z_cd_ n (by omega)
  omega
theorem z_co_ : ∀ n, n < 128 → ∀ m, m < 16 → z_or (z_shl (n : Nat) 4) (m : Nat) = ((16 * n + m : Nat) : Int) := by decide +kernel
theorem z_co {x y : Int} (h0 : 0 ≤ x) (h1 : x < 128) (h2 : 0 ≤ y) (h3 : y < 16) : z_or (z_shl x 4) y = 16 * x + y := by
  obtain ⟨n, rfl⟩ : ∃ n : Nat, x = (n : Int) := ⟨x.toNat, by omega⟩
  obtain ⟨m, rfl⟩ : ∃ m : Nat, y = (m : Int) := ⟨y.toNat, by omega⟩
  have := z_co_ n (by omega) m (by omega)
  omega
