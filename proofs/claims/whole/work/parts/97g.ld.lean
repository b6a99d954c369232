/-! the class's reader: jumps are led -/
section LD
variable {e : z_E} {d : Nat} {c s : z_M} {Q : Int → z_M → Prop}
theorem s_T_lead {j T w : Int} (hj : 0 ≤ j ∧ j < s 5 1 ∧ s 5 1 ≤ 100) (hw : s 6 j = w) (w0 : 0 ≤ w) (w1 : w < 2048) (hT : 0 ≤ T ∧ T < 128) (hq : Q 0 (z_gl (z_up s 6 j (16 * T + w % 16)) c)) : z_C e (d + 1) m_T_lead [z_R 5, z_I j, z_I T] (z_gl s c) Q := by
  have k5 : z_ok z_NT 6 5 = true := by decide +kernel
  have k6 : z_ok z_NT 100100 (5 + 1) = true := by decide +kernel
  have hc := z_cd w0 w1
  refine b_T_lead_0 ?_
  simp only [k5, k6, z_ckT]
  simp (disch := omega) only [z_gl_lo, z_gl_ul, show (5 : Int) + 1 = 6 from rfl, hw]
  refine ⟨fun z => by omega, fun _ => ⟨fun z => by omega, fun _ => ⟨by omega, by omega, ?_⟩⟩⟩
  rw [hc.2, z_co hT.1 hT.2 (by omega) (by omega)]
  exact hq
/-- a chain of jumps: each operand is the place behind the one before it -/
def z_ch (g : Int → Int) (n : Int) : Int → List Int → Prop
  | l, [] => l = 0
  | l, j :: r => l = j + 1 ∧ (0 ≤ j ∧ j < n) ∧ (∃ l', g j = 16 * l' + 6 ∧ (0 ≤ l' ∧ l' ≤ j) ∧ z_ch g n l' r)
/-- the chain led to its end -/
def cf_la (T : Int) : List Int → z_M → z_M
  | [], s => s
  | j :: r, s => cf_la T r (z_up s 6 j (16 * T + 6))
theorem z_ch_up {g g' : Int → Int} {n : Int} : ∀ (r : List Int) (l : Int), z_ch g n l r → (∀ j, j < l → g' j = g j) → z_ch g' n l r
  | [], l, h, _ => h
  | j :: r, l, ⟨h1, h2, l', h3, h4, h5⟩, hg => ⟨h1, h2, l', by rw [hg j (by omega)]; exact h3, h4, z_ch_up r l' h5 (fun i hi => hg i (by omega))⟩
end LD
