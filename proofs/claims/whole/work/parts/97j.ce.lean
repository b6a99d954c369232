/-! the class's reader against the function: a choice that ends -/
section CEE
variable {e : z_E} {c s s1 : z_M} {Q : Int → z_M → Prop} {g : Int → Int} {N o b p p1 l : Int} {c1 : z_Cd} {r : List Int} {n d : Nat}
theorem s_R_noChoice (hl0 : 0 ≤ l ∧ l ≤ b) (hch : z_ch (s 6) b l r) (g1 : z_CG g N s s1 b p1 c1) (hr : ∀ s', z_CS g N s' (b + c1.length) p1 → z_CFr s s' → s' 5 2 = s 5 2 + z_cz c1 → z_aw (s' 6) b c1 → (∀ j, j < b → s' 6 j = cf_la (b + c1.length) r s 6 j) → Q 1 (z_gl s' c)) : z_C e (d + 2) m_T_leadAll [z_R 5, z_I l] (z_gl s1 c) (fun _ σ10 => Q 1 σ10) := by
  obtain ⟨⟨⟨a1, a2⟩, a3, a4, a6, a7⟩, b2, b3, b4, b5⟩ := g1
  have hc1 : z_ch (s1 6) (b + c1.length) l r := z_ch_up r l (z_ch_n (by omega) r l hch) (fun j hj => b4 j (by omega))
  refine s_T_leadAll (d := d) hl0.1 (by omega) (by omega) (by rw [a6.1]; exact hc1) ?_
  rw [a6.1]
  have u : ∀ a i, ¬ a = 6 → cf_la (b + c1.length) r s1 a i = s1 a i := fun a i x => cf_la_ne r s1 a i x
  have u6 : ∀ i, l ≤ i → cf_la (b + c1.length) r s1 6 i = s1 6 i := fun i x => cf_la_ge r l s1 i hc1 x
  refine hr _ ?_ (fun a i x y z => by rw [u a i z]; exact b2 a i x y z) (by rw [u _ _ (by omega)]; exact b3) (z_aw_congr c1 b (fun i x _ => u6 i (by omega)) b5) (fun j hj => cf_la_congr r s s1 j (b4 j hj))
  unfold z_CS
  rw [u 3 2 (by omega), u 3 4 (by omega), u 5 1 (by omega), u 5 2 (by omega)]
  exact ⟨⟨a1, fun i => by rw [u _ _ (by omega)]; exact a2 i⟩, a3, a4, a6, a7⟩
end CEE
