/-! the class's reader: a chain of jumps is led to the end -/
section LA
variable {e : z_E} {d : Nat} {c : z_M} {Q : Int → z_M → Prop}
theorem s_T_leadAll_loop : ∀ (r : List Int) (l x : Int) (s : z_M), 0 ≤ l → 0 ≤ x → x + l ≤ 100 → (0 ≤ s 5 1 ∧ s 5 1 ≤ 100) → z_ch (s 6) (s 5 1) l r → Q 0 (z_gl (cf_la (s 5 1) r s) c) → z_T e (d + 1) m_T_leadAll 6 [some (z_R 5), none, some (z_I (l - 1)), some (z_I x), none] (z_gl s c) Q
  | [], l, x, s, l0, x0, hx, hn, hc, hq => by
    have hl : l = 0 := hc
    exact b_T_leadAll_6 ⟨fun _ => hq, fun _ => ⟨fun _ => hq, fun z => by omega⟩⟩
  | j :: r, l, x, s, l0, x0, hx, hn, ⟨h1, h2, l', h3, h4, h5⟩, hq => by
    have k5 : z_ok z_NT 6 5 = true := by decide +kernel
    have k6 : z_ok z_NT 100100 (5 + 1) = true := by decide +kernel
    have hc := z_cd (x := 16 * l' + 6) (by omega) (by omega)
    refine b_T_leadAll_6 ?_
    simp only [k5, k6, z_ckT]
    rw [show l - 1 = j by omega]
    simp (disch := omega) only [z_gl_lo, show (5 : Int) + 1 = 6 from rfl, h3]
    refine ⟨fun z => by omega, fun _ => ⟨fun z => by omega, fun _ => ⟨fun z => by omega, fun _ => ⟨by omega, s_T_lead (d := d) (w := 16 * l' + 6) (by omega) h3 (by omega) (by omega) (by omega) ?_⟩⟩⟩⟩
    rw [hc.1, show (16 * l' + 6) / 16 = l' by omega, show (16 * l' + 6) % 16 = 6 by omega, z_wr_id (x := l' - 1) (by omega) (by omega), z_wr_id (x := x + 1) (by omega) (by omega)]
    have u : ∀ a i, ¬ (a = 6 ∧ i = j) → z_up s 6 j (16 * s 5 1 + 6) a i = s a i := fun a i y => z_up_ne (by omega)
    have u1 : z_up s 6 j (16 * s 5 1 + 6) 5 1 = s 5 1 := u _ _ (by omega)
    exact s_T_leadAll_loop r l' (x + 1) _ (by omega) (by omega) (by omega) (by rw [u1]; exact hn) (by rw [u1]; exact z_ch_up r l' h5 (fun i hi => u _ _ (by omega))) (by rw [u1]; exact hq)
theorem s_T_leadAll {l : Int} {r : List Int} {s : z_M} (l0 : 0 ≤ l) (l1 : l ≤ 100) (hn : 0 ≤ s 5 1 ∧ s 5 1 ≤ 100) (hc : z_ch (s 6) (s 5 1) l r) (hq : Q 0 (z_gl (cf_la (s 5 1) r s) c)) : z_C e (d + 2) m_T_leadAll [z_R 5, z_I l] (z_gl s c) Q := by
  refine b_T_leadAll_0 ?_
  rw [z_wr_id (by omega) (by omega)]
  exact s_T_leadAll_loop r l 0 s l0 (by omega) (by omega) hn hc hq
end LA
