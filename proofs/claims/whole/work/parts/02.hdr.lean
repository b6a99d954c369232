/-! names, fields, headers of the methods, the layout of the heap: printed by program (wip/whole/gen/hdr.py) -/
def RX0 : String := "MemoByWeight$Frame"
def TX0 : u_T := fun k => match k with
  | 0 => ("MemoByWeight$Frame", "asked", "[I", true)
  | 1 => ("MemoByWeight$Frame", "parts", "[I", true)
  | 2 => ("MemoByWeight$Frame", "text", "LMemoByWeight$Text;", false)
  | 3 => ("MemoByWeight$Frame", "key", "I", false)
  | 4 => ("MemoByWeight$Frame", "time", "I", false)
  | 5 => ("MemoByWeight$Frame", "stepsBefore", "I", false)
  | 6 => ("MemoByWeight$Frame", "at", "I", false)
  | 7 => ("MemoByWeight$Frame", "used", "I", false)
  | 8 => ("MemoByWeight$Frame", "askedSize", "I", false)
  | _ => ("MemoByWeight$Frame", "partsSize", "I", false)
def tyX0 : Nat → FieldType := fun k => match k with
  | 0 => .array .int
  | 1 => .array .int
  | 2 => .object "MemoByWeight$Text"
  | 3 => .int
  | 4 => .int
  | 5 => .int
  | 6 => .int
  | 7 => .int
  | 8 => .int
  | _ => .int
theorem nmX0 : ∀ a, a < 10 → ∀ b, b < 10 → a ≠ b → (TX0 a).2.1 ≠ (TX0 b).2.1 := by decide +kernel
theorem tyX0_ok : ∀ k, k < 10 → parseFieldDescriptor (TX0 k).2.2.1 = some (tyX0 k) := by decide +kernel
def RX1 : String := "MemoByWeight$Kept"
def TX1 : u_T := fun k => match k with
  | 0 => ("MemoByWeight$Kept", "asked", "[I", true)
  | 1 => ("MemoByWeight$Kept", "key", "I", false)
  | 2 => ("MemoByWeight$Kept", "value", "I", false)
  | 3 => ("MemoByWeight$Kept", "cost", "I", false)
  | 4 => ("MemoByWeight$Kept", "weight", "I", false)
  | 5 => ("MemoByWeight$Kept", "time", "I", false)
  | 6 => ("MemoByWeight$Kept", "asks", "I", false)
  | 7 => ("MemoByWeight$Kept", "used", "I", false)
  | 8 => ("MemoByWeight$Kept", "askedSize", "I", false)
  | _ => ("MemoByWeight$Kept", "mark", "I", false)
def tyX1 : Nat → FieldType := fun k => match k with
  | 0 => .array .int
  | 1 => .int
  | 2 => .int
  | 3 => .int
  | 4 => .int
  | 5 => .int
  | 6 => .int
  | 7 => .int
  | 8 => .int
  | _ => .int
theorem nmX1 : ∀ a, a < 10 → ∀ b, b < 10 → a ≠ b → (TX1 a).2.1 ≠ (TX1 b).2.1 := by decide +kernel
theorem tyX1_ok : ∀ k, k < 10 → parseFieldDescriptor (TX1 k).2.2.1 = some (tyX1 k) := by decide +kernel
def RX2 : String := "MemoByWeight$Reader"
def TX2 : u_T := fun k => match k with
  | 0 => ("MemoByWeight$Reader", "tape", "[I", true)
  | 1 => ("MemoByWeight$Reader", "made", "LMemoByWeight$Text;", true)
  | 2 => ("MemoByWeight$Reader", "size", "I", false)
  | 3 => ("MemoByWeight$Reader", "fault", "I", false)
  | 4 => ("MemoByWeight$Reader", "at", "I", false)
  | _ => ("MemoByWeight$Reader", "number", "I", false)
def tyX2 : Nat → FieldType := fun k => match k with
  | 0 => .array .int
  | 1 => .object "MemoByWeight$Text"
  | 2 => .int
  | 3 => .int
  | 4 => .int
  | _ => .int
theorem nmX2 : ∀ a, a < 6 → ∀ b, b < 6 → a ≠ b → (TX2 a).2.1 ≠ (TX2 b).2.1 := by decide +kernel
theorem tyX2_ok : ∀ k, k < 6 → parseFieldDescriptor (TX2 k).2.2.1 = some (tyX2 k) := by decide +kernel
def RX3 : String := "MemoByWeight$Run"
def TX3 : u_T := fun k => match k with
  | 0 => ("MemoByWeight$Run", "frames", "[LMemoByWeight$Frame;", true)
  | 1 => ("MemoByWeight$Run", "kind", "I", false)
  | 2 => ("MemoByWeight$Run", "state", "I", false)
  | 3 => ("MemoByWeight$Run", "depth", "I", false)
  | 4 => ("MemoByWeight$Run", "steps", "I", false)
  | 5 => ("MemoByWeight$Run", "waitsFor", "I", false)
  | 6 => ("MemoByWeight$Run", "waitsForKey", "I", false)
  | 7 => ("MemoByWeight$Run", "value", "I", false)
  | _ => ("MemoByWeight$Run", "reason", "I", false)
def tyX3 : Nat → FieldType := fun k => match k with
  | 0 => .array (.object "MemoByWeight$Frame")
  | 1 => .int
  | 2 => .int
  | 3 => .int
  | 4 => .int
  | 5 => .int
  | 6 => .int
  | 7 => .int
  | _ => .int
theorem nmX3 : ∀ a, a < 9 → ∀ b, b < 9 → a ≠ b → (TX3 a).2.1 ≠ (TX3 b).2.1 := by decide +kernel
theorem tyX3_ok : ∀ k, k < 9 → parseFieldDescriptor (TX3 k).2.2.1 = some (tyX3 k) := by decide +kernel
def RX4 : String := "MemoByWeight$Store"
def TX4 : u_T := fun k => match k with
  | 0 => ("MemoByWeight$Store", "rows", "[LMemoByWeight$Kept;", true)
  | 1 => ("MemoByWeight$Store", "wave", "[I", true)
  | 2 => ("MemoByWeight$Store", "size", "I", false)
  | 3 => ("MemoByWeight$Store", "weights", "I", false)
  | 4 => ("MemoByWeight$Store", "waveSize", "I", false)
  | 5 => ("MemoByWeight$Store", "bound", "I", false)
  | 6 => ("MemoByWeight$Store", "policy", "I", false)
  | 7 => ("MemoByWeight$Store", "thrownOut", "I", false)
  | 8 => ("MemoByWeight$Store", "wentByBound", "I", false)
  | 9 => ("MemoByWeight$Store", "everKept", "I", false)
  | _ => ("MemoByWeight$Store", "byKey", "[LMemoByWeight$Kept;", true)
def tyX4 : Nat → FieldType := fun k => match k with
  | 0 => .array (.object "MemoByWeight$Kept")
  | 1 => .array .int
  | 2 => .int
  | 3 => .int
  | 4 => .int
  | 5 => .int
  | 6 => .int
  | 7 => .int
  | 8 => .int
  | 9 => .int
  | _ => .array (.object "MemoByWeight$Kept")
theorem nmX4 : ∀ a, a < 11 → ∀ b, b < 11 → a ≠ b → (TX4 a).2.1 ≠ (TX4 b).2.1 := by decide +kernel
theorem tyX4_ok : ∀ k, k < 11 → parseFieldDescriptor (TX4 k).2.2.1 = some (tyX4 k) := by decide +kernel
def RX5 : String := "MemoByWeight$Text"
def TX5 : u_T := fun k => match k with
  | 0 => ("MemoByWeight$Text", "code", "[I", true)
  | 1 => ("MemoByWeight$Text", "size", "I", false)
  | _ => ("MemoByWeight$Text", "nodes", "I", false)
def tyX5 : Nat → FieldType := fun k => match k with
  | 0 => .array .int
  | 1 => .int
  | _ => .int
theorem nmX5 : ∀ a, a < 3 → ∀ b, b < 3 → a ≠ b → (TX5 a).2.1 ≠ (TX5 b).2.1 := by decide +kernel
theorem tyX5_ok : ∀ k, k < 3 → parseFieldDescriptor (TX5 k).2.2.1 = some (tyX5 k) := by decide +kernel
def RX6 : String := "MemoByWeight$Thought"
def TX6 : u_T := fun k => match k with
  | 0 => ("MemoByWeight$Thought", "values", "[I", true)
  | 1 => ("MemoByWeight$Thought", "heldIn", "[I", true)
  | _ => ("MemoByWeight$Thought", "round", "I", false)
def tyX6 : Nat → FieldType := fun k => match k with
  | 0 => .array .int
  | 1 => .array .int
  | _ => .int
theorem nmX6 : ∀ a, a < 3 → ∀ b, b < 3 → a ≠ b → (TX6 a).2.1 ≠ (TX6 b).2.1 := by decide +kernel
theorem tyX6_ok : ∀ k, k < 3 → parseFieldDescriptor (TX6 k).2.2.1 = some (tyX6 k) := by decide +kernel
def RX7 : String := "MemoByWeight"
def TX7 : u_T := fun k => match k with
  | 0 => ("MemoByWeight", "cells", "[I", true)
  | 1 => ("MemoByWeight", "texts", "[LMemoByWeight$Text;", true)
  | 2 => ("MemoByWeight", "reader", "LMemoByWeight$Reader;", true)
  | 3 => ("MemoByWeight", "store", "LMemoByWeight$Store;", true)
  | 4 => ("MemoByWeight", "thought", "LMemoByWeight$Thought;", true)
  | 5 => ("MemoByWeight", "asking", "LMemoByWeight$Run;", true)
  | 6 => ("MemoByWeight", "tasks", "[LMemoByWeight$Run;", true)
  | 7 => ("MemoByWeight", "time", "I", false)
  | 8 => ("MemoByWeight", "latestSteps", "I", false)
  | 9 => ("MemoByWeight", "hits", "I", false)
  | 10 => ("MemoByWeight", "framesBegun", "I", false)
  | 11 => ("MemoByWeight", "failures", "I", false)
  | _ => ("MemoByWeight", "waitsBegun", "I", false)
def tyX7 : Nat → FieldType := fun k => match k with
  | 0 => .array .int
  | 1 => .array (.object "MemoByWeight$Text")
  | 2 => .object "MemoByWeight$Reader"
  | 3 => .object "MemoByWeight$Store"
  | 4 => .object "MemoByWeight$Thought"
  | 5 => .object "MemoByWeight$Run"
  | 6 => .array (.object "MemoByWeight$Run")
  | 7 => .int
  | 8 => .int
  | 9 => .int
  | 10 => .int
  | 11 => .int
  | _ => .int
theorem nmX7 : ∀ a, a < 13 → ∀ b, b < 13 → a ≠ b → (TX7 a).2.1 ≠ (TX7 b).2.1 := by decide +kernel
theorem tyX7_ok : ∀ k, k < 13 → parseFieldDescriptor (TX7 k).2.2.1 = some (tyX7 k) := by decide +kernel
def RX8 : String := "MemoByWeightModel"
def TX8 : u_T := fun k => match k with
  | 0 => ("MemoByWeightModel", "cells", "[I", true)
  | 1 => ("MemoByWeightModel", "tape", "[I", true)
  | 2 => ("MemoByWeightModel", "length", "I", false)
  | 3 => ("MemoByWeightModel", "code", "[I", true)
  | 4 => ("MemoByWeightModel", "size", "[I", true)
  | 5 => ("MemoByWeightModel", "draft", "[I", true)
  | 6 => ("MemoByWeightModel", "drafted", "I", false)
  | 7 => ("MemoByWeightModel", "nodes", "I", false)
  | 8 => ("MemoByWeightModel", "at", "I", false)
  | 9 => ("MemoByWeightModel", "fault", "I", false)
  | 10 => ("MemoByWeightModel", "opened", "I", false)
  | 11 => ("MemoByWeightModel", "isKept", "[Z", true)
  | 12 => ("MemoByWeightModel", "value", "[I", true)
  | 13 => ("MemoByWeightModel", "cost", "[I", true)
  | 14 => ("MemoByWeightModel", "weight", "[I", true)
  | 15 => ("MemoByWeightModel", "time", "[I", true)
  | 16 => ("MemoByWeightModel", "asks", "[I", true)
  | 17 => ("MemoByWeightModel", "used", "[I", true)
  | 18 => ("MemoByWeightModel", "cameAt", "[I", true)
  | 19 => ("MemoByWeightModel", "askedMany", "[I", true)
  | 20 => ("MemoByWeightModel", "asked", "[I", true)
  | 21 => ("MemoByWeightModel", "came", "I", false)
  | 22 => ("MemoByWeightModel", "whole", "I", false)
  | 23 => ("MemoByWeightModel", "keptMany", "I", false)
  | 24 => ("MemoByWeightModel", "bound", "I", false)
  | 25 => ("MemoByWeightModel", "policy", "I", false)
  | 26 => ("MemoByWeightModel", "now", "I", false)
  | 27 => ("MemoByWeightModel", "led", "[I", true)
  | 28 => ("MemoByWeightModel", "wave", "[I", true)
  | 29 => ("MemoByWeightModel", "waveMany", "I", false)
  | 30 => ("MemoByWeightModel", "isBound", "Z", false)
  | 31 => ("MemoByWeightModel", "state", "[I", true)
  | 32 => ("MemoByWeightModel", "result", "[I", true)
  | 33 => ("MemoByWeightModel", "steps", "[I", true)
  | 34 => ("MemoByWeightModel", "frames", "[I", true)
  | 35 => ("MemoByWeightModel", "waitsFor", "[I", true)
  | 36 => ("MemoByWeightModel", "waitsKey", "[I", true)
  | 37 => ("MemoByWeightModel", "frameKey", "[I", true)
  | 38 => ("MemoByWeightModel", "framePlace", "[I", true)
  | 39 => ("MemoByWeightModel", "frameBegan", "[I", true)
  | 40 => ("MemoByWeightModel", "frameTime", "[I", true)
  | 41 => ("MemoByWeightModel", "frameUsed", "[I", true)
  | 42 => ("MemoByWeightModel", "frameAsked", "[I", true)
  | 43 => ("MemoByWeightModel", "askedBy", "[I", true)
  | 44 => ("MemoByWeightModel", "frameHeld", "[I", true)
  | 45 => ("MemoByWeightModel", "held", "[I", true)
  | 46 => ("MemoByWeightModel", "stepsLast", "I", false)
  | 47 => ("MemoByWeightModel", "spareKept", "[Z", true)
  | 48 => ("MemoByWeightModel", "spare", "[I", true)
  | 49 => ("MemoByWeightModel", "spareAsked", "[I", true)
  | 50 => ("MemoByWeightModel", "spareLed", "[I", true)
  | 51 => ("MemoByWeightModel", "isHeir", "[Z", true)
  | _ => ("MemoByWeightModel", "chain", "[I", true)
def tyX8 : Nat → FieldType := fun k => match k with
  | 0 => .array .int
  | 1 => .array .int
  | 2 => .int
  | 3 => .array .int
  | 4 => .array .int
  | 5 => .array .int
  | 6 => .int
  | 7 => .int
  | 8 => .int
  | 9 => .int
  | 10 => .int
  | 11 => .array .boolean
  | 12 => .array .int
  | 13 => .array .int
  | 14 => .array .int
  | 15 => .array .int
  | 16 => .array .int
  | 17 => .array .int
  | 18 => .array .int
  | 19 => .array .int
  | 20 => .array .int
  | 21 => .int
  | 22 => .int
  | 23 => .int
  | 24 => .int
  | 25 => .int
  | 26 => .int
  | 27 => .array .int
  | 28 => .array .int
  | 29 => .int
  | 30 => .boolean
  | 31 => .array .int
  | 32 => .array .int
  | 33 => .array .int
  | 34 => .array .int
  | 35 => .array .int
  | 36 => .array .int
  | 37 => .array .int
  | 38 => .array .int
  | 39 => .array .int
  | 40 => .array .int
  | 41 => .array .int
  | 42 => .array .int
  | 43 => .array .int
  | 44 => .array .int
  | 45 => .array .int
  | 46 => .int
  | 47 => .array .boolean
  | 48 => .array .int
  | 49 => .array .int
  | 50 => .array .int
  | 51 => .array .boolean
  | _ => .array .int
theorem nmX8 : ∀ a, a < 53 → ∀ b, b < 53 → a ≠ b → (TX8 a).2.1 ≠ (TX8 b).2.1 := by decide +kernel
theorem tyX8_ok : ∀ k, k < 53 → parseFieldDescriptor (TX8 k).2.2.1 = some (tyX8 k) := by decide +kernel
def z_cl : List vw_C := [(RX0, TX0, 10), (RX1, TX1, 10), (RX2, TX2, 6), (RX3, TX3, 9), (RX4, TX4, 11), (RX5, TX5, 3), (RX6, TX6, 3), (RX7, TX7, 13), (RX8, TX8, 53)]
def z_ty (c k : Nat) : FieldType := match c with
  | 0 => tyX0 k
  | 1 => tyX1 k
  | 2 => tyX2 k
  | 3 => tyX3 k
  | 4 => tyX4 k
  | 5 => tyX5 k
  | 6 => tyX6 k
  | 7 => tyX7 k
  | _ => tyX8 k
def z_hasW (p : Nat) (w : Cond) : Bool := decide (lw_tbl[p]? = some w) && goodWord w
def z_gw : List Cond := lw_tbl.filter goodWord
theorem z_in_gw {p : Nat} {w : Cond} (h : z_hasW p w = true) : w ∈ z_gw := by
  simp only [z_hasW, Bool.and_eq_true, decide_eq_true_eq] at h
  exact List.mem_filter.mpr ⟨List.mem_of_getElem? h.1, h.2⟩
def z_all : List Nat → List Cond → Bool
  | [], [] => true
  | p :: ps, w :: ws => z_hasW p w && z_all ps ws
  | _, _ => false
theorem z_all_in : ∀ (ps : List Nat) (ws : List Cond), z_all ps ws = true → ∀ w ∈ ws, w ∈ z_gw
  | [], [], _ => fun w h => by cases h
  | p :: ps, w :: ws, h => fun x hx => by
    simp only [z_all, Bool.and_eq_true] at h
    rcases List.mem_cons.mp hx with rfl | hx
    · exact z_in_gw h.1
    · exact z_all_in ps ws h.2 x hx
  | [], _ :: _, h => by simp [z_all] at h
  | _ :: _, [], h => by simp [z_all] at h
theorem inX0 : ∀ w ∈ u_ws RX0 TX0 10, w ∈ z_gw := z_all_in [296, 298, 300, 302, 304, 306, 308, 310, 312, 314] _ (by decide +kernel)
theorem inX1 : ∀ w ∈ u_ws RX1 TX1 10, w ∈ z_gw := z_all_in [179, 181, 183, 185, 187, 189, 191, 193, 195, 197] _ (by decide +kernel)
theorem inX2 : ∀ w ∈ u_ws RX2 TX2 6, w ∈ z_gw := z_all_in [131, 133, 135, 137, 139, 141] _ (by decide +kernel)
theorem inX3 : ∀ w ∈ u_ws RX3 TX3 9, w ∈ z_gw := z_all_in [333, 335, 337, 339, 341, 343, 345, 347, 349] _ (by decide +kernel)
theorem inX4 : ∀ w ∈ u_ws RX4 TX4 11, w ∈ z_gw := z_all_in [221, 223, 225, 227, 229, 231, 233, 235, 237, 239, 241] _ (by decide +kernel)
theorem inX5 : ∀ w ∈ u_ws RX5 TX5 3, w ∈ z_gw := z_all_in [114, 116, 118] _ (by decide +kernel)
theorem inX6 : ∀ w ∈ u_ws RX6 TX6 3, w ∈ z_gw := z_all_in [253, 255, 257] _ (by decide +kernel)
theorem inX7 : ∀ w ∈ u_ws RX7 TX7 13, w ∈ z_gw := z_all_in [367, 369, 371, 373, 375, 377, 379, 381, 383, 385, 387, 389, 391] _ (by decide +kernel)
theorem inX8 : ∀ w ∈ u_ws RX8 TX8 53, w ∈ z_gw := z_all_in [905, 907, 909, 911, 913, 915, 917, 919, 921, 923, 925, 927, 929, 931, 933, 935, 937, 939, 941, 943, 945, 947, 949, 951, 953, 955, 957, 959, 961, 963, 965, 967, 969, 971, 973, 975, 977, 979, 981, 983, 985, 987, 989, 991, 993, 995, 997, 999, 1001, 1003, 1005, 1007, 1009] _ (by decide +kernel)
/-- a method: name, bytes, locals, answer, class (its place in z_cl), parameters, cells that it makes, places of its words (code, instance or static, initialized, selects), static -/
abbrev z_MH : Type := MethodName × ByteArray × Nat × Option FieldType × Nat × Nat × Nat × (Nat × Nat × Nat × Nat) × Bool
abbrev m_F_init : Nat := 0
abbrev m_F_begin : Nat := 1
abbrev m_F_hasText : Nat := 2
abbrev m_F_argument : Nat := 3
abbrev m_F_fetch : Nat := 4
abbrev m_F_push : Nat := 5
abbrev m_F_pop : Nat := 6
abbrev m_F_value : Nat := 7
abbrev m_F_noteAsked : Nat := 8
abbrev m_F_isWorkedOut : Nat := 9
abbrev m_K_init : Nat := 10
abbrev m_K_fill : Nat := 11
abbrev m_K_digits : Nat := 12
abbrev m_K_tell : Nat := 13
abbrev m_K_worth : Nat := 14
abbrev m_R_init : Nat := 15
abbrev m_R_add : Nat := 16
abbrev m_R_readTape : Nat := 17
abbrev m_R_wrong : Nat := 18
abbrev m_R_ahead : Nat := 19
abbrev m_R_isDigit : Nat := 20
abbrev m_R_pass : Nat := 21
abbrev m_R_passOpening : Nat := 22
abbrev m_R_readChoice : Nat := 23
abbrev m_R_readComparison : Nat := 24
abbrev m_R_readSum : Nat := 25
abbrev m_R_readProduct : Nat := 26
abbrev m_R_readUnit : Nat := 27
abbrev m_R_readCall : Nat := 28
abbrev m_R_readBracket : Nat := 29
abbrev m_R_readIndex : Nat := 30
abbrev m_R_readNumber : Nat := 31
abbrev m_U_init : Nat := 32
abbrev m_U_renew : Nat := 33
abbrev m_U_isBusy : Nat := 34
abbrev m_U_top : Nat := 35
abbrev m_U_hasFrameOf : Nat := 36
abbrev m_U_begin : Nat := 37
abbrev m_U_beginsAnew : Nat := 38
abbrev m_U_give : Nat := 39
abbrev m_U_waitFor : Nat := 40
abbrev m_U_failBy : Nat := 41
abbrev m_U_outcome : Nat := 42
abbrev m_S_init : Nat := 43
abbrev m_S_find : Nat := 44
abbrev m_S_byNumber : Nat := 45
abbrev m_S_keep : Nat := 46
abbrev m_S_shrink : Nat := 47
abbrev m_S_leastWorth : Nat := 48
abbrev m_S_remove : Nat := 49
abbrev m_S_throwOut : Nat := 50
abbrev m_S_empty : Nat := 51
abbrev m_S_users : Nat := 52
abbrev m_S_heirsOf : Nat := 53
abbrev m_S_chainFrom : Nat := 54
abbrev m_S_markAll : Nat := 55
abbrev m_S_mostMarkAsked : Nat := 56
abbrev m_T_init : Nat := 57
abbrev m_T_stands : Nat := 58
abbrev m_T_empty : Nat := 59
abbrev m_T_become : Nat := 60
abbrev m_T_put : Nat := 61
abbrev m_T_lead : Nat := 62
abbrev m_T_leadAll : Nat := 63
abbrev m_H_init : Nat := 64
abbrev m_H_forget : Nat := 65
abbrev m_H_holds : Nat := 66
abbrev m_H_valueOf : Nat := 67
abbrev m_H_hold : Nat := 68
abbrev m_C_init : Nat := 69
abbrev m_C_feed : Nat := 70
abbrev m_C_rule : Nat := 71
abbrev m_C_drop : Nat := 72
abbrev m_C_set : Nat := 73
abbrev m_C_cell : Nat := 74
abbrev m_C_ask : Nat := 75
abbrev m_C_fresh : Nat := 76
abbrev m_C_steps : Nat := 77
abbrev m_C_bound : Nat := 78
abbrev m_C_policy : Nat := 79
abbrev m_C_kept : Nat := 80
abbrev m_C_asked : Nat := 81
abbrev m_C_key : Nat := 82
abbrev m_C_wave : Nat := 83
abbrev m_C_would : Nat := 84
abbrev m_C_heirs : Nat := 85
abbrev m_C_chain : Nat := 86
abbrev m_C_next : Nat := 87
abbrev m_C_clear : Nat := 88
abbrev m_C_start : Nat := 89
abbrev m_C_step : Nat := 90
abbrev m_C_stop : Nat := 91
abbrev m_C_task : Nat := 92
abbrev m_C_frame : Nat := 93
abbrev m_C_led : Nat := 94
abbrev m_C_count : Nat := 95
abbrev m_C_within : Nat := 96
abbrev m_C_isArgument : Nat := 97
abbrev m_C_isKey : Nat := 98
abbrev m_C_keyOf : Nat := 99
abbrev m_C_rulesWithText : Nat := 100
abbrev m_C_busyTasks : Nat := 101
abbrev m_C_workOut : Nat := 102
abbrev m_C_goOn : Nat := 103
abbrev m_C_workStep : Nat := 104
abbrev m_C_workNode : Nat := 105
abbrev m_C_readCell : Nat := 106
abbrev m_C_calledKey : Nat := 107
abbrev m_C_workSign : Nat := 108
abbrev m_C_join : Nat := 109
abbrev m_C_askKey : Nat := 110
abbrev m_C_recalls : Nat := 111
abbrev m_C_meetsOther : Nat := 112
abbrev m_C_waitsLeadTo : Nat := 113
abbrev m_C_beginFrame : Nat := 114
abbrev m_C_settle : Nat := 115
abbrev m_C_fail : Nat := 116
abbrev m_C_changed : Nat := 117
abbrev m_M_init : Nat := 118
abbrev m_M_in : Nat := 119
abbrev m_M_feed : Nat := 120
abbrev m_M_peek : Nat := 121
abbrev m_M_wrong : Nat := 122
abbrev m_M_takes : Nat := 123
abbrev m_M_wants : Nat := 124
abbrev m_M_writes : Nat := 125
abbrev m_M_opens : Nat := 126
abbrev m_M_readsWhole : Nat := 127
abbrev m_M_readsCompared : Nat := 128
abbrev m_M_readsSum : Nat := 129
abbrev m_M_readsProduct : Nat := 130
abbrev m_M_figures : Nat := 131
abbrev m_M_figuresToEleven : Nat := 132
abbrev m_M_readsUnit : Nat := 133
abbrev m_M_readsBracket : Nat := 134
abbrev m_M_rule : Nat := 135
abbrev m_M_drop : Nat := 136
abbrev m_M_set : Nat := 137
abbrev m_M_cell : Nat := 138
abbrev m_M_keyOf : Nat := 139
abbrev m_M_ruleOf : Nat := 140
abbrev m_M_argumentOf : Nat := 141
abbrev m_M_isKey : Nat := 142
abbrev m_M_goes : Nat := 143
abbrev m_M_worth : Nat := 144
abbrev m_M_leastWorth : Nat := 145
abbrev m_M_holdsBound : Nat := 146
abbrev m_M_digits : Nat := 147
abbrev m_M_cameBehind : Nat := 148
abbrev m_M_changed : Nat := 149
abbrev m_M_top : Nat := 150
abbrev m_M_clears : Nat := 151
abbrev m_M_fails : Nat := 152
abbrev m_M_hasFrame : Nat := 153
abbrev m_M_taskOf : Nat := 154
abbrev m_M_waitsAtLast : Nat := 155
abbrev m_M_asksFor : Nat := 156
abbrev m_M_holds : Nat := 157
abbrev m_M_taken : Nat := 158
abbrev m_M_gets : Nat := 159
abbrev m_M_goesOn : Nat := 160
abbrev m_M_keeps : Nat := 161
abbrev m_M_joined : Nat := 162
abbrev m_M_stepsOnce : Nat := 163
abbrev m_M_beginsAnew : Nat := 164
abbrev m_M_runs : Nat := 165
abbrev m_M_mayAsk : Nat := 166
abbrev m_M_ask : Nat := 167
abbrev m_M_steps : Nat := 168
abbrev m_M_aside : Nat := 169
abbrev m_M_again : Nat := 170
abbrev m_M_fresh : Nat := 171
abbrev m_M_bound : Nat := 172
abbrev m_M_policy : Nat := 173
abbrev m_M_kept : Nat := 174
abbrev m_M_asked : Nat := 175
abbrev m_M_key : Nat := 176
abbrev m_M_wave : Nat := 177
abbrev m_M_would : Nat := 178
abbrev m_M_heirs : Nat := 179
abbrev m_M_asksHeir : Nat := 180
abbrev m_M_chain : Nat := 181
abbrev m_M_next : Nat := 182
abbrev m_M_clear : Nat := 183
abbrev m_M_isTask : Nat := 184
abbrev m_M_isBusy : Nat := 185
abbrev m_M_start : Nat := 186
abbrev m_M_step : Nat := 187
abbrev m_M_stop : Nat := 188
abbrev m_M_task : Nat := 189
abbrev m_M_frame : Nat := 190
abbrev m_M_led : Nat := 191
abbrev m_M_count : Nat := 192
def z_ht : List z_MH := [
  (⟨"MemoByWeight$Frame", "<init>", "()V"⟩, prog_2_method_1_code, 1, Option.none, 0, 0, 2, (271, 270, 81, 0), false),
  (⟨"MemoByWeight$Frame", "begin", "(I)V"⟩, prog_2_method_2_code, 2, Option.none, 0, 1, 0, (508, 506, 81, 507), false),
  (⟨"MemoByWeight$Frame", "hasText", "()Z"⟩, prog_2_method_3_code, 1, Option.some Jvm.ClassFile.FieldType.boolean, 0, 0, 0, (671, 669, 81, 670), false),
  (⟨"MemoByWeight$Frame", "argument", "()I"⟩, prog_2_method_4_code, 1, Option.some Jvm.ClassFile.FieldType.int, 0, 0, 0, (640, 638, 81, 639), false),
  (⟨"MemoByWeight$Frame", "fetch", "()I"⟩, prog_2_method_5_code, 2, Option.some Jvm.ClassFile.FieldType.int, 0, 0, 0, (635, 633, 81, 634), false),
  (⟨"MemoByWeight$Frame", "push", "(I)V"⟩, prog_2_method_6_code, 2, Option.none, 0, 1, 0, (582, 580, 81, 581), false),
  (⟨"MemoByWeight$Frame", "pop", "()I"⟩, prog_2_method_7_code, 1, Option.some Jvm.ClassFile.FieldType.int, 0, 0, 0, (652, 650, 81, 651), false),
  (⟨"MemoByWeight$Frame", "value", "()I"⟩, prog_2_method_8_code, 1, Option.some Jvm.ClassFile.FieldType.int, 0, 0, 0, (676, 674, 81, 675), false),
  (⟨"MemoByWeight$Frame", "noteAsked", "(II)V"⟩, prog_2_method_9_code, 4, Option.none, 0, 2, 0, (586, 584, 81, 585), false),
  (⟨"MemoByWeight$Frame", "isWorkedOut", "()Z"⟩, prog_2_method_10_code, 2, Option.some Jvm.ClassFile.FieldType.boolean, 0, 0, 0, (667, 665, 81, 666), false),
  (⟨"MemoByWeight$Kept", "<init>", "()V"⟩, prog_3_method_1_code, 1, Option.none, 1, 0, 1, (155, 154, 78, 0), false),
  (⟨"MemoByWeight$Kept", "fill", "(LMemoByWeight$Frame;I)V"⟩, prog_3_method_2_code, 3, Option.none, 1, 2, 0, (690, 688, 78, 689), false),
  (⟨"MemoByWeight$Kept", "digits", "(I)I"⟩, prog_3_method_3_code, 1, Option.some Jvm.ClassFile.FieldType.int, 1, 1, 0, (698, 697, 78, 0), true),
  (⟨"MemoByWeight$Kept", "tell", "(I)I"⟩, prog_3_method_4_code, 2, Option.some Jvm.ClassFile.FieldType.int, 1, 1, 0, (742, 740, 78, 741), false),
  (⟨"MemoByWeight$Kept", "worth", "(I)I"⟩, prog_3_method_5_code, 2, Option.some Jvm.ClassFile.FieldType.int, 1, 1, 0, (710, 708, 78, 709), false),
  (⟨"MemoByWeight$Reader", "<init>", "()V"⟩, prog_4_method_1_code, 1, Option.none, 2, 0, 3, (99, 98, 75, 0), false),
  (⟨"MemoByWeight$Reader", "add", "(I)Z"⟩, prog_4_method_2_code, 2, Option.some Jvm.ClassFile.FieldType.boolean, 2, 1, 0, (401, 399, 75, 400), false),
  (⟨"MemoByWeight$Reader", "readTape", "()Z"⟩, prog_4_method_3_code, 2, Option.some Jvm.ClassFile.FieldType.boolean, 2, 0, 0, (412, 410, 75, 411), false),
  (⟨"MemoByWeight$Reader", "wrong", "(I)Z"⟩, prog_4_method_4_code, 2, Option.some Jvm.ClassFile.FieldType.boolean, 2, 1, 0, (460, 459, 75, 9), false),
  (⟨"MemoByWeight$Reader", "ahead", "()I"⟩, prog_4_method_5_code, 1, Option.some Jvm.ClassFile.FieldType.int, 2, 0, 0, (440, 439, 75, 5), false),
  (⟨"MemoByWeight$Reader", "isDigit", "()Z"⟩, prog_4_method_6_code, 1, Option.some Jvm.ClassFile.FieldType.boolean, 2, 0, 0, (456, 455, 75, 8), false),
  (⟨"MemoByWeight$Reader", "pass", "(I)Z"⟩, prog_4_method_7_code, 2, Option.some Jvm.ClassFile.FieldType.boolean, 2, 1, 0, (476, 475, 75, 13), false),
  (⟨"MemoByWeight$Reader", "passOpening", "(II)Z"⟩, prog_4_method_8_code, 3, Option.some Jvm.ClassFile.FieldType.boolean, 2, 2, 0, (472, 471, 75, 12), false),
  (⟨"MemoByWeight$Reader", "readChoice", "(I)Z"⟩, prog_4_method_9_code, 5, Option.some Jvm.ClassFile.FieldType.boolean, 2, 1, 0, (420, 419, 75, 0), false),
  (⟨"MemoByWeight$Reader", "readComparison", "(I)Z"⟩, prog_4_method_10_code, 3, Option.some Jvm.ClassFile.FieldType.boolean, 2, 1, 0, (424, 423, 75, 1), false),
  (⟨"MemoByWeight$Reader", "readSum", "(I)Z"⟩, prog_4_method_11_code, 4, Option.some Jvm.ClassFile.FieldType.boolean, 2, 1, 0, (428, 427, 75, 2), false),
  (⟨"MemoByWeight$Reader", "readProduct", "(I)Z"⟩, prog_4_method_12_code, 4, Option.some Jvm.ClassFile.FieldType.boolean, 2, 1, 0, (432, 431, 75, 3), false),
  (⟨"MemoByWeight$Reader", "readUnit", "(I)Z"⟩, prog_4_method_13_code, 2, Option.some Jvm.ClassFile.FieldType.boolean, 2, 1, 0, (436, 435, 75, 4), false),
  (⟨"MemoByWeight$Reader", "readCall", "(I)Z"⟩, prog_4_method_14_code, 3, Option.some Jvm.ClassFile.FieldType.boolean, 2, 1, 0, (464, 463, 75, 10), false),
  (⟨"MemoByWeight$Reader", "readBracket", "(I)Z"⟩, prog_4_method_15_code, 2, Option.some Jvm.ClassFile.FieldType.boolean, 2, 1, 0, (468, 467, 75, 11), false),
  (⟨"MemoByWeight$Reader", "readIndex", "(I)Z"⟩, prog_4_method_16_code, 3, Option.some Jvm.ClassFile.FieldType.boolean, 2, 1, 0, (448, 447, 75, 6), false),
  (⟨"MemoByWeight$Reader", "readNumber", "()Z"⟩, prog_4_method_17_code, 1, Option.some Jvm.ClassFile.FieldType.boolean, 2, 0, 0, (452, 451, 75, 7), false),
  (⟨"MemoByWeight$Run", "<init>", "()V"⟩, prog_5_method_1_code, 2, Option.none, 3, 0, 91, (264, 263, 80, 0), false),
  (⟨"MemoByWeight$Run", "renew", "(I)V"⟩, prog_5_method_2_code, 2, Option.none, 3, 1, 0, (547, 545, 80, 546), false),
  (⟨"MemoByWeight$Run", "isBusy", "()Z"⟩, prog_5_method_3_code, 1, Option.some Jvm.ClassFile.FieldType.boolean, 3, 0, 0, (500, 498, 80, 499), false),
  (⟨"MemoByWeight$Run", "top", "()LMemoByWeight$Frame;"⟩, prog_5_method_4_code, 1, Option.some (Jvm.ClassFile.FieldType.object "MemoByWeight$Frame"), 3, 0, 0, (578, 576, 80, 577), false),
  (⟨"MemoByWeight$Run", "hasFrameOf", "(I)Z"⟩, prog_5_method_5_code, 3, Option.some Jvm.ClassFile.FieldType.boolean, 3, 1, 0, (594, 592, 80, 593), false),
  (⟨"MemoByWeight$Run", "begin", "(ILMemoByWeight$Text;I)V"⟩, prog_5_method_6_code, 5, Option.none, 3, 3, 0, (622, 620, 80, 621), false),
  (⟨"MemoByWeight$Run", "beginsAnew", "(I)Z"⟩, prog_5_method_7_code, 3, Option.some Jvm.ClassFile.FieldType.boolean, 3, 1, 0, (504, 502, 80, 503), false),
  (⟨"MemoByWeight$Run", "give", "(III)V"⟩, prog_5_method_8_code, 5, Option.none, 3, 3, 0, (574, 572, 80, 573), false),
  (⟨"MemoByWeight$Run", "waitFor", "(II)V"⟩, prog_5_method_9_code, 3, Option.none, 3, 2, 0, (614, 612, 80, 613), false),
  (⟨"MemoByWeight$Run", "failBy", "(I)V"⟩, prog_5_method_10_code, 2, Option.none, 3, 1, 0, (602, 600, 80, 601), false),
  (⟨"MemoByWeight$Run", "outcome", "()I"⟩, prog_5_method_11_code, 1, Option.some Jvm.ClassFile.FieldType.int, 3, 0, 0, (714, 712, 80, 713), false),
  (⟨"MemoByWeight$Store", "<init>", "()V"⟩, prog_6_method_1_code, 2, Option.none, 4, 0, 205, (148, 147, 77, 0), false),
  (⟨"MemoByWeight$Store", "find", "(I)LMemoByWeight$Kept;"⟩, prog_6_method_2_code, 2, Option.some (Jvm.ClassFile.FieldType.object "MemoByWeight$Kept"), 4, 1, 0, (590, 588, 77, 589), false),
  (⟨"MemoByWeight$Store", "byNumber", "(I)I"⟩, prog_6_method_3_code, 7, Option.some Jvm.ClassFile.FieldType.int, 4, 1, 0, (754, 752, 77, 753), false),
  (⟨"MemoByWeight$Store", "keep", "(LMemoByWeight$Frame;I)V"⟩, prog_6_method_4_code, 4, Option.none, 4, 2, 0, (684, 682, 77, 683), false),
  (⟨"MemoByWeight$Store", "shrink", "()V"⟩, prog_6_method_5_code, 2, Option.none, 4, 0, 0, (702, 700, 77, 701), false),
  (⟨"MemoByWeight$Store", "leastWorth", "()I"⟩, prog_6_method_6_code, 5, Option.some Jvm.ClassFile.FieldType.int, 4, 0, 0, (706, 704, 77, 705), false),
  (⟨"MemoByWeight$Store", "remove", "(I)V"⟩, prog_6_method_7_code, 4, Option.none, 4, 1, 0, (516, 515, 77, 15), false),
  (⟨"MemoByWeight$Store", "throwOut", "(I)I"⟩, prog_6_method_8_code, 4, Option.some Jvm.ClassFile.FieldType.int, 4, 1, 0, (512, 510, 77, 511), false),
  (⟨"MemoByWeight$Store", "empty", "()I"⟩, prog_6_method_9_code, 3, Option.some Jvm.ClassFile.FieldType.int, 4, 0, 0, (803, 801, 77, 802), false),
  (⟨"MemoByWeight$Store", "users", "(I)I"⟩, prog_6_method_10_code, 4, Option.some Jvm.ClassFile.FieldType.int, 4, 1, 0, (766, 764, 77, 765), false),
  (⟨"MemoByWeight$Store", "heirsOf", "(LMemoByWeight$Kept;)I"⟩, prog_6_method_11_code, 6, Option.some Jvm.ClassFile.FieldType.int, 4, 1, 0, (774, 772, 77, 773), false),
  (⟨"MemoByWeight$Store", "chainFrom", "(LMemoByWeight$Kept;)I"⟩, prog_6_method_12_code, 6, Option.some Jvm.ClassFile.FieldType.int, 4, 1, 0, (790, 788, 77, 789), false),
  (⟨"MemoByWeight$Store", "markAll", "(I)V"⟩, prog_6_method_13_code, 3, Option.none, 4, 1, 0, (778, 777, 77, 29), false),
  (⟨"MemoByWeight$Store", "mostMarkAsked", "(LMemoByWeight$Kept;)I"⟩, prog_6_method_14_code, 5, Option.some Jvm.ClassFile.FieldType.int, 4, 1, 0, (782, 781, 77, 30), false),
  (⟨"MemoByWeight$Text", "<init>", "()V"⟩, prog_7_method_1_code, 1, Option.none, 5, 0, 1, (105, 104, 76, 0), false),
  (⟨"MemoByWeight$Text", "stands", "()Z"⟩, prog_7_method_2_code, 1, Option.some Jvm.ClassFile.FieldType.boolean, 5, 0, 0, (524, 522, 76, 523), false),
  (⟨"MemoByWeight$Text", "empty", "()V"⟩, prog_7_method_3_code, 1, Option.none, 5, 0, 0, (416, 414, 76, 415), false),
  (⟨"MemoByWeight$Text", "become", "(LMemoByWeight$Text;)V"⟩, prog_7_method_4_code, 2, Option.none, 5, 1, 0, (489, 487, 76, 488), false),
  (⟨"MemoByWeight$Text", "put", "(II)V"⟩, prog_7_method_5_code, 3, Option.none, 5, 2, 0, (444, 442, 76, 443), false),
  (⟨"MemoByWeight$Text", "lead", "(II)V"⟩, prog_7_method_6_code, 3, Option.none, 5, 2, 0, (484, 482, 76, 483), false),
  (⟨"MemoByWeight$Text", "leadAll", "(I)V"⟩, prog_7_method_7_code, 5, Option.none, 5, 1, 0, (480, 478, 76, 479), false),
  (⟨"MemoByWeight$Thought", "<init>", "()V"⟩, prog_8_method_1_code, 1, Option.none, 6, 0, 2, (248, 247, 79, 0), false),
  (⟨"MemoByWeight$Thought", "forget", "()V"⟩, prog_8_method_2_code, 1, Option.none, 6, 0, 0, (722, 720, 79, 721), false),
  (⟨"MemoByWeight$Thought", "holds", "(I)Z"⟩, prog_8_method_3_code, 2, Option.some Jvm.ClassFile.FieldType.boolean, 6, 1, 0, (566, 564, 79, 565), false),
  (⟨"MemoByWeight$Thought", "valueOf", "(I)I"⟩, prog_8_method_4_code, 2, Option.some Jvm.ClassFile.FieldType.int, 6, 1, 0, (570, 568, 79, 569), false),
  (⟨"MemoByWeight$Thought", "hold", "(II)V"⟩, prog_8_method_5_code, 3, Option.none, 6, 2, 0, (680, 678, 79, 679), false),
  (⟨"MemoByWeight", "<init>", "()V"⟩, prog_1_method_1_code, 2, Option.none, 7, 0, 700, (89, 88, 74, 0), false),
  (⟨"MemoByWeight", "feed", "(I)I"⟩, prog_1_method_2_code, 2, Option.some Jvm.ClassFile.FieldType.int, 7, 1, 0, (397, 395, 74, 396), false),
  (⟨"MemoByWeight", "rule", "(I)I"⟩, prog_1_method_3_code, 2, Option.some Jvm.ClassFile.FieldType.int, 7, 1, 0, (405, 403, 74, 404), false),
  (⟨"MemoByWeight", "drop", "(I)I"⟩, prog_1_method_4_code, 2, Option.some Jvm.ClassFile.FieldType.int, 7, 1, 0, (520, 518, 74, 519), false),
  (⟨"MemoByWeight", "set", "(II)I"⟩, prog_1_method_5_code, 3, Option.some Jvm.ClassFile.FieldType.int, 7, 2, 0, (529, 527, 74, 528), false),
  (⟨"MemoByWeight", "cell", "(I)I"⟩, prog_1_method_6_code, 2, Option.some Jvm.ClassFile.FieldType.int, 7, 1, 0, (533, 531, 74, 532), false),
  (⟨"MemoByWeight", "ask", "(II)I"⟩, prog_1_method_7_code, 3, Option.some Jvm.ClassFile.FieldType.int, 7, 2, 0, (537, 535, 74, 536), false),
  (⟨"MemoByWeight", "fresh", "(II)I"⟩, prog_1_method_8_code, 3, Option.some Jvm.ClassFile.FieldType.int, 7, 2, 0, (718, 716, 74, 717), false),
  (⟨"MemoByWeight", "steps", "()I"⟩, prog_1_method_9_code, 1, Option.some Jvm.ClassFile.FieldType.int, 7, 0, 0, (726, 724, 74, 725), false),
  (⟨"MemoByWeight", "bound", "(I)I"⟩, prog_1_method_10_code, 3, Option.some Jvm.ClassFile.FieldType.int, 7, 1, 0, (730, 728, 74, 729), false),
  (⟨"MemoByWeight", "policy", "(I)I"⟩, prog_1_method_11_code, 3, Option.some Jvm.ClassFile.FieldType.int, 7, 1, 0, (734, 732, 74, 733), false),
  (⟨"MemoByWeight", "kept", "(II)I"⟩, prog_1_method_12_code, 4, Option.some Jvm.ClassFile.FieldType.int, 7, 2, 0, (738, 736, 74, 737), false),
  (⟨"MemoByWeight", "asked", "(II)I"⟩, prog_1_method_13_code, 4, Option.some Jvm.ClassFile.FieldType.int, 7, 2, 0, (746, 744, 74, 745), false),
  (⟨"MemoByWeight", "key", "(II)I"⟩, prog_1_method_14_code, 3, Option.some Jvm.ClassFile.FieldType.int, 7, 2, 0, (750, 748, 74, 749), false),
  (⟨"MemoByWeight", "wave", "(I)I"⟩, prog_1_method_15_code, 2, Option.some Jvm.ClassFile.FieldType.int, 7, 1, 0, (758, 756, 74, 757), false),
  (⟨"MemoByWeight", "would", "(I)I"⟩, prog_1_method_16_code, 2, Option.some Jvm.ClassFile.FieldType.int, 7, 1, 0, (762, 760, 74, 761), false),
  (⟨"MemoByWeight", "heirs", "(I)I"⟩, prog_1_method_17_code, 3, Option.some Jvm.ClassFile.FieldType.int, 7, 1, 0, (770, 768, 74, 769), false),
  (⟨"MemoByWeight", "chain", "(I)I"⟩, prog_1_method_18_code, 3, Option.some Jvm.ClassFile.FieldType.int, 7, 1, 0, (786, 784, 74, 785), false),
  (⟨"MemoByWeight", "next", "()I"⟩, prog_1_method_19_code, 1, Option.some Jvm.ClassFile.FieldType.int, 7, 0, 0, (794, 792, 74, 793), false),
  (⟨"MemoByWeight", "clear", "()I"⟩, prog_1_method_20_code, 1, Option.some Jvm.ClassFile.FieldType.int, 7, 0, 0, (799, 797, 74, 798), false),
  (⟨"MemoByWeight", "start", "(III)I"⟩, prog_1_method_21_code, 5, Option.some Jvm.ClassFile.FieldType.int, 7, 3, 0, (807, 805, 74, 806), false),
  (⟨"MemoByWeight", "step", "(II)I"⟩, prog_1_method_22_code, 6, Option.some Jvm.ClassFile.FieldType.int, 7, 2, 0, (811, 809, 74, 810), false),
  (⟨"MemoByWeight", "stop", "(I)I"⟩, prog_1_method_23_code, 4, Option.some Jvm.ClassFile.FieldType.int, 7, 1, 0, (820, 818, 74, 819), false),
  (⟨"MemoByWeight", "task", "(II)I"⟩, prog_1_method_24_code, 4, Option.some Jvm.ClassFile.FieldType.int, 7, 2, 0, (824, 822, 74, 823), false),
  (⟨"MemoByWeight", "frame", "(II)I"⟩, prog_1_method_25_code, 4, Option.some Jvm.ClassFile.FieldType.int, 7, 2, 0, (828, 826, 74, 827), false),
  (⟨"MemoByWeight", "led", "(I)I"⟩, prog_1_method_26_code, 2, Option.some Jvm.ClassFile.FieldType.int, 7, 1, 0, (832, 830, 74, 831), false),
  (⟨"MemoByWeight", "count", "(I)I"⟩, prog_1_method_27_code, 2, Option.some Jvm.ClassFile.FieldType.int, 7, 1, 0, (836, 834, 74, 835), false),
  (⟨"MemoByWeight", "within", "(II)Z"⟩, prog_1_method_28_code, 2, Option.some Jvm.ClassFile.FieldType.boolean, 7, 2, 0, (408, 407, 74, 0), true),
  (⟨"MemoByWeight", "isArgument", "(I)Z"⟩, prog_1_method_29_code, 1, Option.some Jvm.ClassFile.FieldType.boolean, 7, 1, 0, (543, 542, 74, 0), true),
  (⟨"MemoByWeight", "isKey", "(II)Z"⟩, prog_1_method_30_code, 2, Option.some Jvm.ClassFile.FieldType.boolean, 7, 2, 0, (540, 539, 74, 0), true),
  (⟨"MemoByWeight", "keyOf", "(II)I"⟩, prog_1_method_31_code, 2, Option.some Jvm.ClassFile.FieldType.int, 7, 2, 0, (550, 549, 74, 0), true),
  (⟨"MemoByWeight", "rulesWithText", "()I"⟩, prog_1_method_32_code, 6, Option.some Jvm.ClassFile.FieldType.int, 7, 0, 0, (840, 839, 74, 32), false),
  (⟨"MemoByWeight", "busyTasks", "()I"⟩, prog_1_method_33_code, 6, Option.some Jvm.ClassFile.FieldType.int, 7, 0, 0, (844, 843, 74, 33), false),
  (⟨"MemoByWeight", "workOut", "(LMemoByWeight$Run;I)V"⟩, prog_1_method_34_code, 4, Option.none, 7, 2, 0, (554, 553, 74, 16), false),
  (⟨"MemoByWeight", "goOn", "(LMemoByWeight$Run;)V"⟩, prog_1_method_35_code, 3, Option.none, 7, 1, 0, (815, 814, 74, 31), false),
  (⟨"MemoByWeight", "workStep", "(LMemoByWeight$Run;)V"⟩, prog_1_method_36_code, 4, Option.none, 7, 1, 0, (626, 625, 74, 23), false),
  (⟨"MemoByWeight", "workNode", "(LMemoByWeight$Run;LMemoByWeight$Frame;)I"⟩, prog_1_method_37_code, 5, Option.some Jvm.ClassFile.FieldType.int, 7, 2, 0, (631, 630, 74, 24), false),
  (⟨"MemoByWeight", "readCell", "(LMemoByWeight$Frame;I)V"⟩, prog_1_method_38_code, 3, Option.none, 7, 2, 0, (644, 643, 74, 25), false),
  (⟨"MemoByWeight", "calledKey", "(LMemoByWeight$Run;LMemoByWeight$Frame;I)I"⟩, prog_1_method_39_code, 5, Option.some Jvm.ClassFile.FieldType.int, 7, 3, 0, (648, 647, 74, 26), false),
  (⟨"MemoByWeight", "workSign", "(LMemoByWeight$Run;LMemoByWeight$Frame;I)V"⟩, prog_1_method_40_code, 7, Option.none, 7, 3, 0, (656, 655, 74, 27), false),
  (⟨"MemoByWeight", "join", "(III)I"⟩, prog_1_method_41_code, 3, Option.some Jvm.ClassFile.FieldType.int, 7, 3, 0, (659, 658, 74, 0), true),
  (⟨"MemoByWeight", "askKey", "(LMemoByWeight$Run;I)V"⟩, prog_1_method_42_code, 3, Option.none, 7, 2, 0, (558, 557, 74, 17), false),
  (⟨"MemoByWeight", "recalls", "(LMemoByWeight$Run;I)Z"⟩, prog_1_method_43_code, 4, Option.some Jvm.ClassFile.FieldType.boolean, 7, 2, 0, (562, 561, 74, 18), false),
  (⟨"MemoByWeight", "meetsOther", "(LMemoByWeight$Run;I)Z"⟩, prog_1_method_44_code, 4, Option.some Jvm.ClassFile.FieldType.boolean, 7, 2, 0, (606, 605, 74, 20), false),
  (⟨"MemoByWeight", "waitsLeadTo", "(ILMemoByWeight$Run;)Z"⟩, prog_1_method_45_code, 5, Option.some Jvm.ClassFile.FieldType.boolean, 7, 2, 0, (610, 609, 74, 21), false),
  (⟨"MemoByWeight", "beginFrame", "(LMemoByWeight$Run;I)V"⟩, prog_1_method_46_code, 4, Option.none, 7, 2, 0, (618, 617, 74, 22), false),
  (⟨"MemoByWeight", "settle", "(LMemoByWeight$Run;)V"⟩, prog_1_method_47_code, 4, Option.none, 7, 1, 0, (663, 662, 74, 28), false),
  (⟨"MemoByWeight", "fail", "(LMemoByWeight$Run;I)V"⟩, prog_1_method_48_code, 3, Option.none, 7, 2, 0, (598, 597, 74, 19), false),
  (⟨"MemoByWeight", "changed", "(I)I"⟩, prog_1_method_49_code, 7, Option.some Jvm.ClassFile.FieldType.int, 7, 1, 0, (496, 495, 74, 14), false),
  (⟨"MemoByWeightModel", "<init>", "()V"⟩, prog_10_method_1_code, 1, Option.none, 8, 0, 38, (849, 848, 82, 0), false),
  (⟨"MemoByWeightModel", "in", "(JJJ)Z"⟩, prog_10_method_2_code, 6, Option.some Jvm.ClassFile.FieldType.boolean, 8, 3, 0, (1020, 1019, 82, 0), true),
  (⟨"MemoByWeightModel", "feed", "(I)I"⟩, prog_10_method_3_code, 2, Option.some Jvm.ClassFile.FieldType.int, 8, 1, 0, (1016, 1014, 82, 1015), false),
  (⟨"MemoByWeightModel", "peek", "()I"⟩, prog_10_method_4_code, 1, Option.some Jvm.ClassFile.FieldType.int, 8, 0, 0, (1053, 1052, 82, 40), false),
  (⟨"MemoByWeightModel", "wrong", "(I)V"⟩, prog_10_method_5_code, 2, Option.none, 8, 1, 0, (1061, 1060, 82, 42), false),
  (⟨"MemoByWeightModel", "takes", "(I)Z"⟩, prog_10_method_6_code, 2, Option.some Jvm.ClassFile.FieldType.boolean, 8, 1, 0, (1049, 1048, 82, 39), false),
  (⟨"MemoByWeightModel", "wants", "(I)V"⟩, prog_10_method_7_code, 2, Option.none, 8, 1, 0, (1073, 1072, 82, 45), false),
  (⟨"MemoByWeightModel", "writes", "(II)V"⟩, prog_10_method_8_code, 3, Option.none, 8, 2, 0, (1065, 1064, 82, 43), false),
  (⟨"MemoByWeightModel", "opens", "()V"⟩, prog_10_method_9_code, 1, Option.none, 8, 0, 0, (1057, 1056, 82, 41), false),
  (⟨"MemoByWeightModel", "readsWhole", "()V"⟩, prog_10_method_10_code, 3, Option.none, 8, 0, 0, (1029, 1028, 82, 34), false),
  (⟨"MemoByWeightModel", "readsCompared", "()V"⟩, prog_10_method_11_code, 1, Option.none, 8, 0, 0, (1033, 1032, 82, 35), false),
  (⟨"MemoByWeightModel", "readsSum", "()V"⟩, prog_10_method_12_code, 2, Option.none, 8, 0, 0, (1037, 1036, 82, 36), false),
  (⟨"MemoByWeightModel", "readsProduct", "()V"⟩, prog_10_method_13_code, 2, Option.none, 8, 0, 0, (1041, 1040, 82, 37), false),
  (⟨"MemoByWeightModel", "figures", "()I"⟩, prog_10_method_14_code, 3, Option.some Jvm.ClassFile.FieldType.int, 8, 0, 0, (1081, 1080, 82, 47), false),
  (⟨"MemoByWeightModel", "figuresToEleven", "()I"⟩, prog_10_method_15_code, 3, Option.some Jvm.ClassFile.FieldType.int, 8, 0, 0, (1077, 1076, 82, 46), false),
  (⟨"MemoByWeightModel", "readsUnit", "()V"⟩, prog_10_method_16_code, 2, Option.none, 8, 0, 0, (1045, 1044, 82, 38), false),
  (⟨"MemoByWeightModel", "readsBracket", "()V"⟩, prog_10_method_17_code, 1, Option.none, 8, 0, 0, (1069, 1068, 82, 44), false),
  (⟨"MemoByWeightModel", "rule", "(I)I"⟩, prog_10_method_18_code, 2, Option.some Jvm.ClassFile.FieldType.int, 8, 1, 0, (1024, 1022, 82, 1023), false),
  (⟨"MemoByWeightModel", "drop", "(I)I"⟩, prog_10_method_19_code, 2, Option.some Jvm.ClassFile.FieldType.int, 8, 1, 0, (1111, 1109, 82, 1110), false),
  (⟨"MemoByWeightModel", "set", "(II)I"⟩, prog_10_method_20_code, 3, Option.some Jvm.ClassFile.FieldType.int, 8, 2, 0, (1115, 1113, 82, 1114), false),
  (⟨"MemoByWeightModel", "cell", "(I)I"⟩, prog_10_method_21_code, 2, Option.some Jvm.ClassFile.FieldType.int, 8, 1, 0, (1121, 1119, 82, 1120), false),
  (⟨"MemoByWeightModel", "keyOf", "(II)I"⟩, prog_10_method_22_code, 2, Option.some Jvm.ClassFile.FieldType.int, 8, 2, 0, (1137, 1136, 82, 0), true),
  (⟨"MemoByWeightModel", "ruleOf", "(I)I"⟩, prog_10_method_23_code, 1, Option.some Jvm.ClassFile.FieldType.int, 8, 1, 0, (1107, 1106, 82, 0), true),
  (⟨"MemoByWeightModel", "argumentOf", "(I)I"⟩, prog_10_method_24_code, 1, Option.some Jvm.ClassFile.FieldType.int, 8, 1, 0, (1204, 1203, 82, 0), true),
  (⟨"MemoByWeightModel", "isKey", "(J)Z"⟩, prog_10_method_25_code, 2, Option.some Jvm.ClassFile.FieldType.boolean, 8, 1, 0, (1242, 1241, 82, 0), true),
  (⟨"MemoByWeightModel", "goes", "(I)V"⟩, prog_10_method_26_code, 2, Option.none, 8, 1, 0, (1096, 1095, 82, 50), false),
  (⟨"MemoByWeightModel", "worth", "(I)I"⟩, prog_10_method_27_code, 2, Option.some Jvm.ClassFile.FieldType.int, 8, 1, 0, (1181, 1180, 82, 63), false),
  (⟨"MemoByWeightModel", "leastWorth", "()I"⟩, prog_10_method_28_code, 3, Option.some Jvm.ClassFile.FieldType.int, 8, 0, 0, (1177, 1176, 82, 62), false),
  (⟨"MemoByWeightModel", "holdsBound", "()V"⟩, prog_10_method_29_code, 1, Option.none, 8, 0, 0, (1173, 1172, 82, 61), false),
  (⟨"MemoByWeightModel", "digits", "(I)I"⟩, prog_10_method_30_code, 3, Option.some Jvm.ClassFile.FieldType.int, 8, 1, 0, (1168, 1167, 82, 0), true),
  (⟨"MemoByWeightModel", "cameBehind", "(I)I"⟩, prog_10_method_31_code, 4, Option.some Jvm.ClassFile.FieldType.int, 8, 1, 0, (1092, 1091, 82, 49), false),
  (⟨"MemoByWeightModel", "changed", "(I)I"⟩, prog_10_method_32_code, 5, Option.some Jvm.ClassFile.FieldType.int, 8, 1, 0, (1088, 1087, 82, 48), false),
  (⟨"MemoByWeightModel", "top", "(I)I"⟩, prog_10_method_33_code, 2, Option.some Jvm.ClassFile.FieldType.int, 8, 1, 0, (1149, 1148, 82, 56), false),
  (⟨"MemoByWeightModel", "clears", "(I)V"⟩, prog_10_method_34_code, 2, Option.none, 8, 1, 0, (1104, 1103, 82, 52), false),
  (⟨"MemoByWeightModel", "fails", "(II)V"⟩, prog_10_method_35_code, 3, Option.none, 8, 2, 0, (1189, 1188, 82, 65), false),
  (⟨"MemoByWeightModel", "hasFrame", "(II)Z"⟩, prog_10_method_36_code, 4, Option.some Jvm.ClassFile.FieldType.boolean, 8, 2, 0, (1185, 1184, 82, 64), false),
  (⟨"MemoByWeightModel", "taskOf", "(II)I"⟩, prog_10_method_37_code, 4, Option.some Jvm.ClassFile.FieldType.int, 8, 2, 0, (1193, 1192, 82, 66), false),
  (⟨"MemoByWeightModel", "waitsAtLast", "(II)Z"⟩, prog_10_method_38_code, 5, Option.some Jvm.ClassFile.FieldType.boolean, 8, 2, 0, (1197, 1196, 82, 67), false),
  (⟨"MemoByWeightModel", "asksFor", "(IIZ)V"⟩, prog_10_method_39_code, 6, Option.none, 8, 3, 0, (1141, 1140, 82, 54), false),
  (⟨"MemoByWeightModel", "holds", "(II)V"⟩, prog_10_method_40_code, 3, Option.none, 8, 2, 0, (1153, 1152, 82, 57), false),
  (⟨"MemoByWeightModel", "taken", "(I)I"⟩, prog_10_method_41_code, 2, Option.some Jvm.ClassFile.FieldType.int, 8, 1, 0, (1161, 1160, 82, 59), false),
  (⟨"MemoByWeightModel", "gets", "(IIII)V"⟩, prog_10_method_42_code, 8, Option.none, 8, 4, 0, (1145, 1144, 82, 55), false),
  (⟨"MemoByWeightModel", "goesOn", "(I)V"⟩, prog_10_method_43_code, 7, Option.none, 8, 1, 0, (1157, 1156, 82, 58), false),
  (⟨"MemoByWeightModel", "keeps", "(III)V"⟩, prog_10_method_44_code, 6, Option.none, 8, 3, 0, (1165, 1164, 82, 60), false),
  (⟨"MemoByWeightModel", "joined", "(IJJ)J"⟩, prog_10_method_45_code, 5, Option.some Jvm.ClassFile.FieldType.long, 8, 3, 0, (1207, 1206, 82, 0), true),
  (⟨"MemoByWeightModel", "stepsOnce", "(I)V"⟩, prog_10_method_46_code, 9, Option.none, 8, 1, 0, (1201, 1200, 82, 68), false),
  (⟨"MemoByWeightModel", "beginsAnew", "(II)V"⟩, prog_10_method_47_code, 5, Option.none, 8, 2, 0, (1100, 1099, 82, 51), false),
  (⟨"MemoByWeightModel", "runs", "(II)V"⟩, prog_10_method_48_code, 3, Option.none, 8, 2, 0, (1134, 1133, 82, 53), false),
  (⟨"MemoByWeightModel", "mayAsk", "(II)Z"⟩, prog_10_method_49_code, 2, Option.some Jvm.ClassFile.FieldType.boolean, 8, 2, 0, (1128, 1127, 82, 0), true),
  (⟨"MemoByWeightModel", "ask", "(II)I"⟩, prog_10_method_50_code, 3, Option.some Jvm.ClassFile.FieldType.int, 8, 2, 0, (1125, 1123, 82, 1124), false),
  (⟨"MemoByWeightModel", "steps", "()I"⟩, prog_10_method_51_code, 1, Option.some Jvm.ClassFile.FieldType.int, 8, 0, 0, (1213, 1211, 82, 1212), false),
  (⟨"MemoByWeightModel", "aside", "(I[I)V"⟩, prog_10_method_52_code, 3, Option.none, 8, 2, 0, (1221, 1220, 82, 69), false),
  (⟨"MemoByWeightModel", "again", "(I[I)V"⟩, prog_10_method_53_code, 3, Option.none, 8, 2, 0, (1225, 1224, 82, 70), false),
  (⟨"MemoByWeightModel", "fresh", "(II)I"⟩, prog_10_method_54_code, 8, Option.some Jvm.ClassFile.FieldType.int, 8, 2, 0, (1217, 1215, 82, 1216), false),
  (⟨"MemoByWeightModel", "bound", "(I)I"⟩, prog_10_method_55_code, 3, Option.some Jvm.ClassFile.FieldType.int, 8, 1, 0, (1229, 1227, 82, 1228), false),
  (⟨"MemoByWeightModel", "policy", "(I)I"⟩, prog_10_method_56_code, 3, Option.some Jvm.ClassFile.FieldType.int, 8, 1, 0, (1234, 1232, 82, 1233), false),
  (⟨"MemoByWeightModel", "kept", "(II)I"⟩, prog_10_method_57_code, 3, Option.some Jvm.ClassFile.FieldType.int, 8, 2, 0, (1239, 1237, 82, 1238), false),
  (⟨"MemoByWeightModel", "asked", "(II)I"⟩, prog_10_method_58_code, 3, Option.some Jvm.ClassFile.FieldType.int, 8, 2, 0, (1248, 1246, 82, 1247), false),
  (⟨"MemoByWeightModel", "key", "(II)I"⟩, prog_10_method_59_code, 5, Option.some Jvm.ClassFile.FieldType.int, 8, 2, 0, (1252, 1250, 82, 1251), false),
  (⟨"MemoByWeightModel", "wave", "(I)I"⟩, prog_10_method_60_code, 2, Option.some Jvm.ClassFile.FieldType.int, 8, 1, 0, (1256, 1254, 82, 1255), false),
  (⟨"MemoByWeightModel", "would", "(I)I"⟩, prog_10_method_61_code, 4, Option.some Jvm.ClassFile.FieldType.int, 8, 1, 0, (1260, 1258, 82, 1259), false),
  (⟨"MemoByWeightModel", "heirs", "(I)I"⟩, prog_10_method_62_code, 5, Option.some Jvm.ClassFile.FieldType.int, 8, 1, 0, (1265, 1263, 82, 1264), false),
  (⟨"MemoByWeightModel", "asksHeir", "(I)Z"⟩, prog_10_method_63_code, 3, Option.some Jvm.ClassFile.FieldType.boolean, 8, 1, 0, (1269, 1268, 82, 71), false),
  (⟨"MemoByWeightModel", "chain", "(I)I"⟩, prog_10_method_64_code, 7, Option.some Jvm.ClassFile.FieldType.int, 8, 1, 0, (1273, 1271, 82, 1272), false),
  (⟨"MemoByWeightModel", "next", "()I"⟩, prog_10_method_65_code, 1, Option.some Jvm.ClassFile.FieldType.int, 8, 0, 0, (1277, 1275, 82, 1276), false),
  (⟨"MemoByWeightModel", "clear", "()I"⟩, prog_10_method_66_code, 3, Option.some Jvm.ClassFile.FieldType.int, 8, 0, 0, (1281, 1279, 82, 1280), false),
  (⟨"MemoByWeightModel", "isTask", "(I)Z"⟩, prog_10_method_67_code, 1, Option.some Jvm.ClassFile.FieldType.boolean, 8, 1, 0, (1288, 1287, 82, 0), true),
  (⟨"MemoByWeightModel", "isBusy", "(I)Z"⟩, prog_10_method_68_code, 2, Option.some Jvm.ClassFile.FieldType.boolean, 8, 1, 0, (1292, 1291, 82, 72), false),
  (⟨"MemoByWeightModel", "start", "(III)I"⟩, prog_10_method_69_code, 4, Option.some Jvm.ClassFile.FieldType.int, 8, 3, 0, (1285, 1283, 82, 1284), false),
  (⟨"MemoByWeightModel", "step", "(II)I"⟩, prog_10_method_70_code, 4, Option.some Jvm.ClassFile.FieldType.int, 8, 2, 0, (1296, 1294, 82, 1295), false),
  (⟨"MemoByWeightModel", "stop", "(I)I"⟩, prog_10_method_71_code, 3, Option.some Jvm.ClassFile.FieldType.int, 8, 1, 0, (1301, 1299, 82, 1300), false),
  (⟨"MemoByWeightModel", "task", "(II)I"⟩, prog_10_method_72_code, 3, Option.some Jvm.ClassFile.FieldType.int, 8, 2, 0, (1305, 1303, 82, 1304), false),
  (⟨"MemoByWeightModel", "frame", "(II)I"⟩, prog_10_method_73_code, 3, Option.some Jvm.ClassFile.FieldType.int, 8, 2, 0, (1310, 1308, 82, 1309), false),
  (⟨"MemoByWeightModel", "led", "(I)I"⟩, prog_10_method_74_code, 2, Option.some Jvm.ClassFile.FieldType.int, 8, 1, 0, (1314, 1312, 82, 1313), false),
  (⟨"MemoByWeightModel", "count", "(I)I"⟩, prog_10_method_75_code, 4, Option.some Jvm.ClassFile.FieldType.int, 8, 1, 0, (1318, 1316, 82, 1317), false)]
def z_h0 : z_MH := (⟨"", "", ""⟩, ⟨#[]⟩, 0, none, 0, 0, 0, (0, 0, 0, 0), false)
def z_hd (y : Nat) : z_MH := z_ht.getD y z_h0
def z_NC : Nat := 701
abbrev z_NT : Nat := 740
def z_kM : List Nat := [9, 100012, 100100, 104800, 100012, 100400, 201212, 101212, 101212, 101212, 101212, 101212, 101212, 101212, 101212, 138784, 100007, 101212, 100005, 100005, 100005, 100005, 100005, 100005, 100150, 100150, 100150, 100150, 100150, 100150, 104800, 100150, 109600, 201212, 109696, 138784, 100007, 201212, 101212]
def z_kR (x : Int) : Nat := if x = 0 then 4 else if x = 1 then 500030 else if x % 3 = 2 then 1 else if x % 3 = 0 then 100025 else 100019
/-- what stands at a cell: 1 .. 9 an object of a class of z_cl, else 100000 * kind + length of an array -/
def z_knd (x : Int) : Nat :=
  if x < 0 then 0 else
  if x < 11 then ([8, 100012, 300012, 3, 100100, 6, 100100, 5, 600101, 100101, 601212] : List Nat).getD x.toNat 0 else
  if x < 213 then (if x % 2 = 1 then 2 else 100025) else
  if x < 216 then ([7, 101212, 101212] : List Nat).getD (x - 213).toNat 0 else
  if x < 308 then z_kR (x - 216) else
  if x = 308 then 400004 else
  if x < 333 then (if x % 2 = 1 then 6 else 100100) else
  if x < 701 then z_kR ((x - 333) % 92) else
  z_kM.getD (x - 701).toNat 0
/-- the fields: 0 int, 1 a reference that moves, 2 a reference that stands from the constructor on, 3 boolean -/
def z_ft (kd j : Nat) : Nat := match kd with
  | 1 => ([2, 2, 1, 0, 0, 0, 0, 0, 0, 0] : List Nat).getD j 0
  | 2 => ([2, 0, 0, 0, 0, 0, 0, 0, 0, 0] : List Nat).getD j 0
  | 3 => ([2, 2, 0, 0, 0, 0] : List Nat).getD j 0
  | 4 => ([2, 0, 0, 0, 0, 0, 0, 0, 0] : List Nat).getD j 0
  | 5 => ([2, 2, 0, 0, 0, 0, 0, 0, 0, 0, 2] : List Nat).getD j 0
  | 6 => ([2, 0, 0] : List Nat).getD j 0
  | 7 => ([2, 2, 0] : List Nat).getD j 0
  | 8 => ([2, 2, 2, 2, 2, 2, 2, 0, 0, 0, 0, 0, 0] : List Nat).getD j 0
  | 9 => ([2, 2, 0, 2, 2, 2, 0, 0, 0, 0, 0, 2, 2, 2, 2, 2, 2, 2, 2, 2, 2, 0, 0, 0, 0, 0, 0, 2, 2, 0, 3, 2, 2, 2, 2, 2, 2, 2, 2, 2, 2, 2, 2, 2, 2, 2, 0, 2, 2, 2, 2, 2, 2] : List Nat).getD j 0
  | _ => 0
def z_nf (kd : Nat) : Nat := match kd with
  | 1 => 10
  | 2 => 10
  | 3 => 6
  | 4 => 9
  | 5 => 11
  | 6 => 3
  | 7 => 3
  | 8 => 13
  | 9 => 53
  | _ => 0
/-- what a field of the second kind holds -/
def z_sr (kd j : Nat) (x : Int) : Int := match kd, j with
  | 1, 0 => x + 1
  | 1, 1 => x + 2
  | 2, 0 => x + 1
  | 3, 0 => x + 1
  | 3, 1 => x + 2
  | 4, 0 => x + 1
  | 5, 0 => x + 1
  | 5, 1 => x + 2
  | 5, 10 => x + 3
  | 6, 0 => x + 1
  | 7, 0 => x + 1
  | 7, 1 => x + 2
  | 8, 0 => 1
  | 8, 1 => 2
  | 8, 2 => 3
  | 8, 3 => 7
  | 8, 4 => 213
  | 8, 5 => 216
  | 8, 6 => 308
  | 9, 0 => 702
  | 9, 1 => 703
  | 9, 3 => 704
  | 9, 4 => 705
  | 9, 5 => 706
  | 9, 11 => 707
  | 9, 12 => 708
  | 9, 13 => 709
  | 9, 14 => 710
  | 9, 15 => 711
  | 9, 16 => 712
  | 9, 17 => 713
  | 9, 18 => 714
  | 9, 19 => 715
  | 9, 20 => 716
  | 9, 27 => 717
  | 9, 28 => 718
  | 9, 31 => 719
  | 9, 32 => 720
  | 9, 33 => 721
  | 9, 34 => 722
  | 9, 35 => 723
  | 9, 36 => 724
  | 9, 37 => 725
  | 9, 38 => 726
  | 9, 39 => 727
  | 9, 40 => 728
  | 9, 41 => 729
  | 9, 42 => 730
  | 9, 43 => 731
  | 9, 44 => 732
  | 9, 45 => 733
  | 9, 47 => 734
  | 9, 48 => 735
  | 9, 49 => 736
  | 9, 50 => 737
  | 9, 51 => 738
  | 9, 52 => 739
  | _, _ => -1
/-- what the arrays of references that stand hold -/
def z_sa (tag : Nat) (x i : Int) : Int := match tag with
  | 3 => 309 + 2 * i
  | 4 => 333 + 92 * i
  | _ => x + 1 + 3 * i
def z_nw : List Cond := [(.methodLinkNest "MemoByWeight" (21 : Nat) ({ cls := "MemoByWeight$Reader", name := "<init>", desc := "()V" } : Jvm.MethodName) "MemoByWeight"), (.methodLinkNest "MemoByWeight$Reader" (17 : Nat) ({ cls := "MemoByWeight$Text", name := "<init>", desc := "()V" } : Jvm.MethodName) "MemoByWeight"), (.methodLinkNest "MemoByWeight$Store" (28 : Nat) ({ cls := "MemoByWeight$Kept", name := "<init>", desc := "()V" } : Jvm.MethodName) "MemoByWeight"), (.methodLinkNest "MemoByWeight" (35 : Nat) ({ cls := "MemoByWeight$Thought", name := "<init>", desc := "()V" } : Jvm.MethodName) "MemoByWeight"), (.methodLinkNest "MemoByWeight$Run" (17 : Nat) ({ cls := "MemoByWeight$Frame", name := "<init>", desc := "()V" } : Jvm.MethodName) "MemoByWeight"), (.methodLinkNest "MemoByWeight" (51 : Nat) ({ cls := "MemoByWeight$Text", name := "<init>", desc := "()V" } : Jvm.MethodName) "MemoByWeight"), (.methodLinkNest "MemoByWeight$Store" (39 : Nat) ({ cls := "MemoByWeight", name := "within", desc := "(II)Z" } : Jvm.MethodName) "MemoByWeight")]
def z_ao : List String := ["MemoByWeight$Text", "MemoByWeight$Run", "MemoByWeight$Frame", "MemoByWeight$Kept"]
