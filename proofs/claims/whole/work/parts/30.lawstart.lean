/-- the law from its entry, over a relation that the first memory has and every call keeps -/
theorem lw_start {R : Nat → z_M → Prop} (hR0 : ∀ σ, z_q 740 σ (fun _ _ => False) → z_rM σ → R 0 σ) (hops : z_ops R) (hmono : ∀ n σ, R n σ → R (n + 1) σ) {p : Program} {env : Env} {s : State} {m : MethodId} {below : List Frame} {meth : Method} {c : Code} (l : Launch) {b L : Nat} {xs : Nat → Int32} (hL : L ≤ 2048) (C0 : lw_At p s m meth c b L xs) : W p l env room_1 s m #[Value.ref b] below meth c s.heap [] 0 0 (lw_Z below #[Value.ref b] s) (entryFrame m ([Value.ref b] : List Value).toArray 4) := by
  obtain ⟨hx, hb, hr, hml, hown, hts, hX, hbl, hlocks, hgv⟩ := id C0
  obtain ⟨e, rfl, he, hKS⟩ := z_env l hts
  have hl := lv_entry ([.ref b]) (n := 4) (Nat.le_of_ble_eq_true rfl)
  rw [lg_entry_eq]
  generalize (lg_sl ([.ref b]) ++ List.replicate (4 - (lg_sl ([.ref b])).length) Slot.unset).toArray = la at hl ⊢
  have hl : lv_has la 4 [(0, .ref b)] := hl
  have R0 : z_Rep e false 0 (fun _ _ => 0) s.heap [] := ⟨fun _ => by rw [he]; rfl, fun k q h => by simp [z_wd] at h, by rw [he]; exact va_S.rf⟩
  have M0 : z_rM (fun _ _ => 0) := fun _ _ => z_ir0
  refine lw_new (N := 0) (ci := 7) C0 hKS rfl (by decide +kernel) (z_in_gw (p := 85) (by decide +kernel)) (z_in_gw (p := 74) (by decide +kernel)) dl_0 (by decide +kernel) M0 R0 (fun H1 M1 R1 => ?_)
  refine lv_dup hx hb dl_3 rfl ?_
  refine lw_callI (y' := m_C_init) (b0 := 0) (N := 1) (N' := 701) (d := 1000) C0 hKS (z_hget rfl) (by decide +kernel) (by decide +kernel) (by decide +kernel) (by decide +kernel) (by decide) (z_in_gw (p := 87) (by decide +kernel)) dl_4 (Nat.le_of_ble_eq_true rfl) (by decide +kernel) M1 R1 hl.1 (Nat.le_of_ble_eq_true rfl) (s_C_init (by omega) ?_) (fun r σ1 H2 locs2 g1 M2 R2 => ?_)
  · refine z_q_w (z_q_nu (N := 0) (P := fun _ _ => True) (fun k i a1 a2 => by omega) (by decide +kernel)) (fun k i a1 a2 a3 a4 => ⟨fun w => Or.inr w, fun w w2 => ?_⟩)
    rcases w with w | w
    · omega
    · exact absurd w w2
  refine lv_astore_n (lv' := [(1, .ref (e.2.1.size + 0)), (0, .ref b)]) hx hb dl_7 rfl hl (by decide) rfl (fun la hl => ?_)
  refine lw_new (N := 701) (ci := 8) C0 hKS rfl (by decide +kernel) (z_in_gw (p := 845) (by decide +kernel)) (z_in_gw (p := 82) (by decide +kernel)) dl_8 (by decide +kernel) M2 R2 (fun H3 M3 R3 => ?_)
  refine lv_dup hx hb dl_11 rfl ?_
  refine lw_callI (y' := m_M_init) (b0 := 701) (N := 702) (N' := 740) (d := 1000) C0 hKS (z_hget rfl) (by decide +kernel) (by decide +kernel) (by decide +kernel) (by decide +kernel) (by decide) (z_in_gw (p := 847) (by decide +kernel)) dl_12 (Nat.le_of_ble_eq_true rfl) (by decide +kernel) M3 R3 hl.1 (Nat.le_of_ble_eq_true rfl) (s_M_init (by omega) ?_) (fun r σ2 H4 locs4 g2 M4 R4 => ?_)
  · refine z_q_w (z_q_nu (N := 701) g1 (by decide +kernel)) (fun k i a1 a2 a3 a4 => ⟨fun w => Or.inr w, fun w w2 => ?_⟩)
    rcases w with w | w
    · exact w.1.elim
    · exact absurd w w2
  refine lv_astore_n (lv' := [(2, .ref (e.2.1.size + 701)), (1, .ref (e.2.1.size + 0)), (0, .ref b)]) hx hb dl_15 rfl hl (by decide) rfl (fun la hl => ?_)
  refine lv_iconst (v := Int32.ofInt 0) hx hb dl_16 rfl ?_
  refine lv_istore_n (lv' := [(3, .int (Int32.ofInt 0)), (2, .ref (e.2.1.size + 701)), (1, .ref (e.2.1.size + 0)), (0, .ref b)]) hx hb dl_17 rfl hl (by decide) rfl (fun la hl => ?_)
  exact lw_loop C0 hL he hKS hops hmono (by decide +kernel) 513 0 rfl (Nat.zero_le _) σ2 H4 locs4 la (lv_sub hl [3, 2, 1, 0] rfl) (hR0 σ2 g2 M4) M4 (z_phase g2 R4)
