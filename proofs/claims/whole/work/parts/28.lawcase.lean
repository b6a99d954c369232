/-! THE LAW: its walk, over any relation R of the number of calls and the memory that every call keeps -/
def z_two (e : z_E) (n : Nat) (R : Nat → z_M → Prop) (yC yM : Nat) (args : List z_V) (σ : z_M) : Prop := z_C e 1000 yC (z_R 0 :: args) σ (fun r σ1 => z_C e 1000 yM (z_R 701 :: args) σ1 (fun r2 σ2 => r = r2 ∧ R (n + 1) σ2))
def z_ops (R : Nat → z_M → Prop) : Prop := ∀ (e : z_E) (n : Nat) (σ : z_M), n < 512 → R n σ → ∀ a1 a2 a3 : Int, z_ir a1 → z_ir a2 → z_ir a3 →
  z_two e n R m_C_feed m_M_feed [z_I a1] σ ∧
  z_two e n R m_C_rule m_M_rule [z_I a1] σ ∧
  z_two e n R m_C_drop m_M_drop [z_I a1] σ ∧
  z_two e n R m_C_set m_M_set [z_I a1, z_I a2] σ ∧
  z_two e n R m_C_cell m_M_cell [z_I a1] σ ∧
  z_two e n R m_C_ask m_M_ask [z_I a1, z_I a2] σ ∧
  z_two e n R m_C_fresh m_M_fresh [z_I a1, z_I a2] σ ∧
  z_two e n R m_C_steps m_M_steps [] σ ∧
  z_two e n R m_C_bound m_M_bound [z_I a1] σ ∧
  z_two e n R m_C_policy m_M_policy [z_I a1] σ ∧
  z_two e n R m_C_kept m_M_kept [z_I a1, z_I a2] σ ∧
  z_two e n R m_C_asked m_M_asked [z_I a1, z_I a2] σ ∧
  z_two e n R m_C_key m_M_key [z_I a1, z_I a2] σ ∧
  z_two e n R m_C_wave m_M_wave [z_I a1] σ ∧
  z_two e n R m_C_would m_M_would [z_I a1] σ ∧
  z_two e n R m_C_heirs m_M_heirs [z_I a1] σ ∧
  z_two e n R m_C_chain m_M_chain [z_I a1] σ ∧
  z_two e n R m_C_next m_M_next [] σ ∧
  z_two e n R m_C_clear m_M_clear [] σ ∧
  z_two e n R m_C_start m_M_start [z_I a1, z_I a2, z_I a3] σ ∧
  z_two e n R m_C_step m_M_step [z_I a1, z_I a2] σ ∧
  z_two e n R m_C_stop m_M_stop [z_I a1] σ ∧
  z_two e n R m_C_task m_M_task [z_I a1, z_I a2] σ ∧
  z_two e n R m_C_frame m_M_frame [z_I a1, z_I a2] σ ∧
  z_two e n R m_C_led m_M_led [z_I a1] σ ∧
  z_two e n R m_C_count m_M_count [z_I a1] σ
section LWW
variable {p : Program} {env : Env} {s : State} {m : MethodId} {below : List Frame} {meth : Method} {c : Code} {b L : Nat} {xs : Nat → Int32} {e : z_E} {pc cells slots : Nat} {H : Heap} {locs : List Loc} {la : Array Slot} {σ : z_M} {st : List Value} {QQ : State → Prop}
abbrev lw_l (e : z_E) (b : Nat) (i : Int) : List (Nat × Value) := [(0, .ref b), (1, .ref (e.2.1.size + 0)), (2, .ref (e.2.1.size + 701)), (3, .int (Int32.ofInt i))]
theorem lw_arg {i j : Int} (C0 : lw_At p s m meth c b L xs) (hL : L ≤ 2048) (he : e.2.1 = s.heap) (hS : va_S (z_A e) e.2.1 H locs) (hl : lv_has la 4 (lw_l e b i)) (hj0 : 0 ≤ j) (hj1 : j ≤ 3) (hi0 : 0 ≤ i) (hi1 : i + 3 < (L : Int)) (d0 : decode code pc = .ok (.aload_n 0, 1)) (d1 : decode code (pc + 1) = .ok (.iload_n 3, 1)) (d2 : decode code (pc + 2) = .ok (.iconst j, 1)) (d3 : decode code (pc + 3) = .ok (.iadd, 1)) (d4 : decode code (pc + 4) = .ok (.iaload, 1))
    (k : W p e.1 env room_1 s m #[.ref b] below meth c H locs cells slots QQ (F0 m (pc + 5) la (z_vv e (z_I (xs (i + j).toNat).toInt) :: st))) : W p e.1 env room_1 s m #[.ref b] below meth c H locs cells slots QQ (F0 m pc la st) := by
  obtain ⟨hx, hb, hr, hml, hown, hts, hX, hbl, hlocks, hgv⟩ := C0
  refine lv_aload_n hx hb d0 rfl (lv_at hl 0 rfl) ?_
  refine lv_iload_n hx hb d1 rfl (lv_at hl 3 rfl) ?_
  refine lv_iconst hx hb d2 rfl ?_
  refine lv_iadd hx hb d3 ?_
  have h1 : z_ir (i + j) := by unfold z_ir; omega
  rw [← Int32.ofInt_add]
  rw [he] at hS
  refine va_sld hx hb hX hbl (A := z_A e) (by show ¬ e.2.1.size ≤ b; rw [he]; omega) hS (z_vpin h1 (by omega) (by omega)) d4 ?_
  rw [z_nat h1]
  have hk : z_vv e (z_I (xs (i + j).toNat).toInt) = .int (xs (i + j).toNat) := congrArg Value.int (Int32.ofInt_toInt _)
  rw [hk] at k
  exact k
theorem lw_callC {y' ix d ph : Nat} {b0 : Int} {As : List z_V} {Q : Int → z_M → Prop} (C0 : lw_At p s m meth c b L xs) (hKS : z_KS e s) (hy : Nat.blt y' 193 = true) (hst : (z_hd y').2.2.2.2.2.2.2.2 = false) (na : Nat) (hlen : As.length = na) (hn : (z_hd y').2.2.2.2.2.1 = na) (hrt : (z_hd y').2.2.2.1 = some .int) (hok : z_ok 740 ((z_hd y').2.2.2.2.1 + 1) b0 = true) (hw1 : Cond.methodLink R_law ix (z_hd y').1 ∈ z_gw) (hw2 : Cond.selects (z_hd y').1.cls (z_hd y').1 (z_hd y').1 ∈ z_gw) (hdg : decode code pc = .ok (.invokevirtual ix, 3)) (hdd : d ≤ 1501) (hc : cells ≤ 600000 ∧ slots ≤ 7302250) (rA : z_rS As) (rM : z_rM σ) (R : z_Rep e true 740 σ H locs) (hla : la.size = 4) (hcat : (st.map fun v => v.category).sum ≤ 8)
    (hY : z_C e d y' (z_R b0 :: As) σ Q)
    (k : ∀ r σ' H1 locs1, Q r σ' → z_rM σ' → z_ir r → z_Rep e true 740 σ' H1 locs1 → W p e.1 env room_1 s m #[.ref b] below meth c H1 locs1 cells slots QQ (F0 m (pc + 3) la (.int (Int32.ofInt r) :: st))) :
    W p e.1 env room_1 s m #[.ref b] below meth c H locs cells slots QQ (F0 m pc la ((As.map (z_vv e)).reverse ++ .ref (e.2.1.size + b0.toNat) :: st)) := by
  refine lw_callV (N' := 740) (d := d) C0 hKS (z_hget hy) hst (hlen.trans hn.symm) hok hw1 hw2 hdg hdd (by omega) rA rM R hla hcat hY ?_
  intro r σ' H1 locs1 h1 h2 h3 h4
  rw [hrt] at h3 ⊢
  rw [Nat.sub_self, Nat.sub_self, Nat.add_zero, Nat.add_zero]
  exact k r σ' H1 locs1 h1 h2 h3 h4
theorem lw_case_feed {R : Nat → z_M → Prop} {n : Nat} {i : Int} (C0 : lw_At p s m meth c b L xs) (hL : L ≤ 2048) (he : e.2.1 = s.heap) (hKS : z_KS e s) (hl : lv_has la 4 (lw_l e b i)) (hi0 : 0 ≤ i) (hi1 : i + 3 < (L : Int)) (hc : cells ≤ 600000 ∧ slots ≤ 7302250) (rM : z_rM σ) (Rp : z_Rep e true 740 σ H locs) (h2 : z_two e n R m_C_feed m_M_feed [z_I (xs (i + 1).toNat).toInt] σ)
    (k : ∀ σ' H1 locs1, R (n + 1) σ' → z_rM σ' → z_Rep e true 740 σ' H1 locs1 → W p e.1 env room_1 s m #[.ref b] below meth c H1 locs1 cells slots QQ (F0 m 830 la [])) : W p e.1 env room_1 s m #[.ref b] below meth c H locs cells slots QQ (F0 m 152 la []) := by
  obtain ⟨hx, hb, -⟩ := id C0
  refine lv_aload_n hx hb dl_152 rfl (lv_at hl 1 rfl) ?_
  refine lw_arg (j := 1) C0 hL he Rp.2.2 hl (by omega) (by omega) hi0 hi1 dl_153 dl_154 dl_155 dl_156 dl_157 ?_
  refine lw_callC (y' := m_C_feed) (ph := 0) (As := [z_I (xs (i + 1).toNat).toInt]) (b0 := 0) (st := []) C0 hKS rfl (by decide +kernel) 1 rfl (by decide +kernel) (by decide +kernel) (by decide +kernel) (z_in_gw (p := 394) (by decide +kernel)) (z_in_gw (p := 396) (by decide +kernel)) dl_158 (Nat.le_of_ble_eq_true rfl) hc (fun v hv => by simp only [List.mem_cons, List.not_mem_nil, or_false] at hv; rcases hv with rfl <;> exact z_toir _) rM Rp hl.1 (Nat.le_of_ble_eq_true rfl) h2 ?_
  intro r σ1 H1 locs1 g1 g2 g3 g4
  refine lv_aload_n hx hb dl_161 rfl (lv_at hl 2 rfl) ?_
  refine lw_arg (j := 1) C0 hL he g4.2.2 hl (by omega) (by omega) hi0 hi1 dl_162 dl_163 dl_164 dl_165 dl_166 ?_
  refine lw_callC (y' := m_M_feed) (ph := 0) (As := [z_I (xs (i + 1).toNat).toInt]) (b0 := 701) (st := [.int (Int32.ofInt r)]) C0 hKS rfl (by decide +kernel) 1 rfl (by decide +kernel) (by decide +kernel) (by decide +kernel) (z_in_gw (p := 1013) (by decide +kernel)) (z_in_gw (p := 1015) (by decide +kernel)) dl_167 (Nat.le_of_ble_eq_true rfl) hc (fun v hv => by simp only [List.mem_cons, List.not_mem_nil, or_false] at hv; rcases hv with rfl <;> exact z_toir _) g2 g4 hl.1 (Nat.le_of_ble_eq_true rfl) g1 ?_
  intro r2 σ2 H2 locs2 f1 f2 f3 f4
  obtain ⟨rfl, f1⟩ := f1
  exact lv_icmp_eq (tgt := 830) hx hb dl_170 (by decide) (fun _ => k σ2 H2 locs2 f1 f2 f4) (fun w => absurd rfl w)
theorem lw_case_rule {R : Nat → z_M → Prop} {n : Nat} {i : Int} (C0 : lw_At p s m meth c b L xs) (hL : L ≤ 2048) (he : e.2.1 = s.heap) (hKS : z_KS e s) (hl : lv_has la 4 (lw_l e b i)) (hi0 : 0 ≤ i) (hi1 : i + 3 < (L : Int)) (hc : cells ≤ 600000 ∧ slots ≤ 7302250) (rM : z_rM σ) (Rp : z_Rep e true 740 σ H locs) (h2 : z_two e n R m_C_rule m_M_rule [z_I (xs (i + 1).toNat).toInt] σ)
    (k : ∀ σ' H1 locs1, R (n + 1) σ' → z_rM σ' → z_Rep e true 740 σ' H1 locs1 → W p e.1 env room_1 s m #[.ref b] below meth c H1 locs1 cells slots QQ (F0 m 830 la [])) : W p e.1 env room_1 s m #[.ref b] below meth c H locs cells slots QQ (F0 m 175 la []) := by
  obtain ⟨hx, hb, -⟩ := id C0
  refine lv_aload_n hx hb dl_175 rfl (lv_at hl 1 rfl) ?_
  refine lw_arg (j := 1) C0 hL he Rp.2.2 hl (by omega) (by omega) hi0 hi1 dl_176 dl_177 dl_178 dl_179 dl_180 ?_
  refine lw_callC (y' := m_C_rule) (ph := 0) (As := [z_I (xs (i + 1).toNat).toInt]) (b0 := 0) (st := []) C0 hKS rfl (by decide +kernel) 1 rfl (by decide +kernel) (by decide +kernel) (by decide +kernel) (z_in_gw (p := 402) (by decide +kernel)) (z_in_gw (p := 404) (by decide +kernel)) dl_181 (Nat.le_of_ble_eq_true rfl) hc (fun v hv => by simp only [List.mem_cons, List.not_mem_nil, or_false] at hv; rcases hv with rfl <;> exact z_toir _) rM Rp hl.1 (Nat.le_of_ble_eq_true rfl) h2 ?_
  intro r σ1 H1 locs1 g1 g2 g3 g4
  refine lv_aload_n hx hb dl_184 rfl (lv_at hl 2 rfl) ?_
  refine lw_arg (j := 1) C0 hL he g4.2.2 hl (by omega) (by omega) hi0 hi1 dl_185 dl_186 dl_187 dl_188 dl_189 ?_
  refine lw_callC (y' := m_M_rule) (ph := 0) (As := [z_I (xs (i + 1).toNat).toInt]) (b0 := 701) (st := [.int (Int32.ofInt r)]) C0 hKS rfl (by decide +kernel) 1 rfl (by decide +kernel) (by decide +kernel) (by decide +kernel) (z_in_gw (p := 1021) (by decide +kernel)) (z_in_gw (p := 1023) (by decide +kernel)) dl_190 (Nat.le_of_ble_eq_true rfl) hc (fun v hv => by simp only [List.mem_cons, List.not_mem_nil, or_false] at hv; rcases hv with rfl <;> exact z_toir _) g2 g4 hl.1 (Nat.le_of_ble_eq_true rfl) g1 ?_
  intro r2 σ2 H2 locs2 f1 f2 f3 f4
  obtain ⟨rfl, f1⟩ := f1
  exact lv_icmp_eq (tgt := 830) hx hb dl_193 (by decide) (fun _ => k σ2 H2 locs2 f1 f2 f4) (fun w => absurd rfl w)
theorem lw_case_drop {R : Nat → z_M → Prop} {n : Nat} {i : Int} (C0 : lw_At p s m meth c b L xs) (hL : L ≤ 2048) (he : e.2.1 = s.heap) (hKS : z_KS e s) (hl : lv_has la 4 (lw_l e b i)) (hi0 : 0 ≤ i) (hi1 : i + 3 < (L : Int)) (hc : cells ≤ 600000 ∧ slots ≤ 7302250) (rM : z_rM σ) (Rp : z_Rep e true 740 σ H locs) (h2 : z_two e n R m_C_drop m_M_drop [z_I (xs (i + 1).toNat).toInt] σ)
    (k : ∀ σ' H1 locs1, R (n + 1) σ' → z_rM σ' → z_Rep e true 740 σ' H1 locs1 → W p e.1 env room_1 s m #[.ref b] below meth c H1 locs1 cells slots QQ (F0 m 830 la [])) : W p e.1 env room_1 s m #[.ref b] below meth c H locs cells slots QQ (F0 m 198 la []) := by
  obtain ⟨hx, hb, -⟩ := id C0
  refine lv_aload_n hx hb dl_198 rfl (lv_at hl 1 rfl) ?_
  refine lw_arg (j := 1) C0 hL he Rp.2.2 hl (by omega) (by omega) hi0 hi1 dl_199 dl_200 dl_201 dl_202 dl_203 ?_
  refine lw_callC (y' := m_C_drop) (ph := 0) (As := [z_I (xs (i + 1).toNat).toInt]) (b0 := 0) (st := []) C0 hKS rfl (by decide +kernel) 1 rfl (by decide +kernel) (by decide +kernel) (by decide +kernel) (z_in_gw (p := 517) (by decide +kernel)) (z_in_gw (p := 519) (by decide +kernel)) dl_204 (Nat.le_of_ble_eq_true rfl) hc (fun v hv => by simp only [List.mem_cons, List.not_mem_nil, or_false] at hv; rcases hv with rfl <;> exact z_toir _) rM Rp hl.1 (Nat.le_of_ble_eq_true rfl) h2 ?_
  intro r σ1 H1 locs1 g1 g2 g3 g4
  refine lv_aload_n hx hb dl_207 rfl (lv_at hl 2 rfl) ?_
  refine lw_arg (j := 1) C0 hL he g4.2.2 hl (by omega) (by omega) hi0 hi1 dl_208 dl_209 dl_210 dl_211 dl_212 ?_
  refine lw_callC (y' := m_M_drop) (ph := 0) (As := [z_I (xs (i + 1).toNat).toInt]) (b0 := 701) (st := [.int (Int32.ofInt r)]) C0 hKS rfl (by decide +kernel) 1 rfl (by decide +kernel) (by decide +kernel) (by decide +kernel) (z_in_gw (p := 1108) (by decide +kernel)) (z_in_gw (p := 1110) (by decide +kernel)) dl_213 (Nat.le_of_ble_eq_true rfl) hc (fun v hv => by simp only [List.mem_cons, List.not_mem_nil, or_false] at hv; rcases hv with rfl <;> exact z_toir _) g2 g4 hl.1 (Nat.le_of_ble_eq_true rfl) g1 ?_
  intro r2 σ2 H2 locs2 f1 f2 f3 f4
  obtain ⟨rfl, f1⟩ := f1
  exact lv_icmp_eq (tgt := 830) hx hb dl_216 (by decide) (fun _ => k σ2 H2 locs2 f1 f2 f4) (fun w => absurd rfl w)
theorem lw_case_set {R : Nat → z_M → Prop} {n : Nat} {i : Int} (C0 : lw_At p s m meth c b L xs) (hL : L ≤ 2048) (he : e.2.1 = s.heap) (hKS : z_KS e s) (hl : lv_has la 4 (lw_l e b i)) (hi0 : 0 ≤ i) (hi1 : i + 3 < (L : Int)) (hc : cells ≤ 600000 ∧ slots ≤ 7302250) (rM : z_rM σ) (Rp : z_Rep e true 740 σ H locs) (h2 : z_two e n R m_C_set m_M_set [z_I (xs (i + 1).toNat).toInt, z_I (xs (i + 2).toNat).toInt] σ)
    (k : ∀ σ' H1 locs1, R (n + 1) σ' → z_rM σ' → z_Rep e true 740 σ' H1 locs1 → W p e.1 env room_1 s m #[.ref b] below meth c H1 locs1 cells slots QQ (F0 m 830 la [])) : W p e.1 env room_1 s m #[.ref b] below meth c H locs cells slots QQ (F0 m 221 la []) := by
  obtain ⟨hx, hb, -⟩ := id C0
  refine lv_aload_n hx hb dl_221 rfl (lv_at hl 1 rfl) ?_
  refine lw_arg (j := 1) C0 hL he Rp.2.2 hl (by omega) (by omega) hi0 hi1 dl_222 dl_223 dl_224 dl_225 dl_226 ?_
  refine lw_arg (j := 2) C0 hL he Rp.2.2 hl (by omega) (by omega) hi0 hi1 dl_227 dl_228 dl_229 dl_230 dl_231 ?_
  refine lw_callC (y' := m_C_set) (ph := 0) (As := [z_I (xs (i + 1).toNat).toInt, z_I (xs (i + 2).toNat).toInt]) (b0 := 0) (st := []) C0 hKS rfl (by decide +kernel) 2 rfl (by decide +kernel) (by decide +kernel) (by decide +kernel) (z_in_gw (p := 526) (by decide +kernel)) (z_in_gw (p := 528) (by decide +kernel)) dl_232 (Nat.le_of_ble_eq_true rfl) hc (fun v hv => by simp only [List.mem_cons, List.not_mem_nil, or_false] at hv; rcases hv with rfl | rfl <;> exact z_toir _) rM Rp hl.1 (Nat.le_of_ble_eq_true rfl) h2 ?_
  intro r σ1 H1 locs1 g1 g2 g3 g4
  refine lv_aload_n hx hb dl_235 rfl (lv_at hl 2 rfl) ?_
  refine lw_arg (j := 1) C0 hL he g4.2.2 hl (by omega) (by omega) hi0 hi1 dl_236 dl_237 dl_238 dl_239 dl_240 ?_
  refine lw_arg (j := 2) C0 hL he g4.2.2 hl (by omega) (by omega) hi0 hi1 dl_241 dl_242 dl_243 dl_244 dl_245 ?_
  refine lw_callC (y' := m_M_set) (ph := 0) (As := [z_I (xs (i + 1).toNat).toInt, z_I (xs (i + 2).toNat).toInt]) (b0 := 701) (st := [.int (Int32.ofInt r)]) C0 hKS rfl (by decide +kernel) 2 rfl (by decide +kernel) (by decide +kernel) (by decide +kernel) (z_in_gw (p := 1112) (by decide +kernel)) (z_in_gw (p := 1114) (by decide +kernel)) dl_246 (Nat.le_of_ble_eq_true rfl) hc (fun v hv => by simp only [List.mem_cons, List.not_mem_nil, or_false] at hv; rcases hv with rfl | rfl <;> exact z_toir _) g2 g4 hl.1 (Nat.le_of_ble_eq_true rfl) g1 ?_
  intro r2 σ2 H2 locs2 f1 f2 f3 f4
  obtain ⟨rfl, f1⟩ := f1
  exact lv_icmp_eq (tgt := 830) hx hb dl_249 (by decide) (fun _ => k σ2 H2 locs2 f1 f2 f4) (fun w => absurd rfl w)
theorem lw_case_cell {R : Nat → z_M → Prop} {n : Nat} {i : Int} (C0 : lw_At p s m meth c b L xs) (hL : L ≤ 2048) (he : e.2.1 = s.heap) (hKS : z_KS e s) (hl : lv_has la 4 (lw_l e b i)) (hi0 : 0 ≤ i) (hi1 : i + 3 < (L : Int)) (hc : cells ≤ 600000 ∧ slots ≤ 7302250) (rM : z_rM σ) (Rp : z_Rep e true 740 σ H locs) (h2 : z_two e n R m_C_cell m_M_cell [z_I (xs (i + 1).toNat).toInt] σ)
    (k : ∀ σ' H1 locs1, R (n + 1) σ' → z_rM σ' → z_Rep e true 740 σ' H1 locs1 → W p e.1 env room_1 s m #[.ref b] below meth c H1 locs1 cells slots QQ (F0 m 830 la [])) : W p e.1 env room_1 s m #[.ref b] below meth c H locs cells slots QQ (F0 m 254 la []) := by
  obtain ⟨hx, hb, -⟩ := id C0
  refine lv_aload_n hx hb dl_254 rfl (lv_at hl 1 rfl) ?_
  refine lw_arg (j := 1) C0 hL he Rp.2.2 hl (by omega) (by omega) hi0 hi1 dl_255 dl_256 dl_257 dl_258 dl_259 ?_
  refine lw_callC (y' := m_C_cell) (ph := 0) (As := [z_I (xs (i + 1).toNat).toInt]) (b0 := 0) (st := []) C0 hKS rfl (by decide +kernel) 1 rfl (by decide +kernel) (by decide +kernel) (by decide +kernel) (z_in_gw (p := 530) (by decide +kernel)) (z_in_gw (p := 532) (by decide +kernel)) dl_260 (Nat.le_of_ble_eq_true rfl) hc (fun v hv => by simp only [List.mem_cons, List.not_mem_nil, or_false] at hv; rcases hv with rfl <;> exact z_toir _) rM Rp hl.1 (Nat.le_of_ble_eq_true rfl) h2 ?_
  intro r σ1 H1 locs1 g1 g2 g3 g4
  refine lv_aload_n hx hb dl_263 rfl (lv_at hl 2 rfl) ?_
  refine lw_arg (j := 1) C0 hL he g4.2.2 hl (by omega) (by omega) hi0 hi1 dl_264 dl_265 dl_266 dl_267 dl_268 ?_
  refine lw_callC (y' := m_M_cell) (ph := 0) (As := [z_I (xs (i + 1).toNat).toInt]) (b0 := 701) (st := [.int (Int32.ofInt r)]) C0 hKS rfl (by decide +kernel) 1 rfl (by decide +kernel) (by decide +kernel) (by decide +kernel) (z_in_gw (p := 1118) (by decide +kernel)) (z_in_gw (p := 1120) (by decide +kernel)) dl_269 (Nat.le_of_ble_eq_true rfl) hc (fun v hv => by simp only [List.mem_cons, List.not_mem_nil, or_false] at hv; rcases hv with rfl <;> exact z_toir _) g2 g4 hl.1 (Nat.le_of_ble_eq_true rfl) g1 ?_
  intro r2 σ2 H2 locs2 f1 f2 f3 f4
  obtain ⟨rfl, f1⟩ := f1
  exact lv_icmp_eq (tgt := 830) hx hb dl_272 (by decide) (fun _ => k σ2 H2 locs2 f1 f2 f4) (fun w => absurd rfl w)
theorem lw_case_ask {R : Nat → z_M → Prop} {n : Nat} {i : Int} (C0 : lw_At p s m meth c b L xs) (hL : L ≤ 2048) (he : e.2.1 = s.heap) (hKS : z_KS e s) (hl : lv_has la 4 (lw_l e b i)) (hi0 : 0 ≤ i) (hi1 : i + 3 < (L : Int)) (hc : cells ≤ 600000 ∧ slots ≤ 7302250) (rM : z_rM σ) (Rp : z_Rep e true 740 σ H locs) (h2 : z_two e n R m_C_ask m_M_ask [z_I (xs (i + 1).toNat).toInt, z_I (xs (i + 2).toNat).toInt] σ)
    (k : ∀ σ' H1 locs1, R (n + 1) σ' → z_rM σ' → z_Rep e true 740 σ' H1 locs1 → W p e.1 env room_1 s m #[.ref b] below meth c H1 locs1 cells slots QQ (F0 m 830 la [])) : W p e.1 env room_1 s m #[.ref b] below meth c H locs cells slots QQ (F0 m 277 la []) := by
  obtain ⟨hx, hb, -⟩ := id C0
  refine lv_aload_n hx hb dl_277 rfl (lv_at hl 1 rfl) ?_
  refine lw_arg (j := 1) C0 hL he Rp.2.2 hl (by omega) (by omega) hi0 hi1 dl_278 dl_279 dl_280 dl_281 dl_282 ?_
  refine lw_arg (j := 2) C0 hL he Rp.2.2 hl (by omega) (by omega) hi0 hi1 dl_283 dl_284 dl_285 dl_286 dl_287 ?_
  refine lw_callC (y' := m_C_ask) (ph := 0) (As := [z_I (xs (i + 1).toNat).toInt, z_I (xs (i + 2).toNat).toInt]) (b0 := 0) (st := []) C0 hKS rfl (by decide +kernel) 2 rfl (by decide +kernel) (by decide +kernel) (by decide +kernel) (z_in_gw (p := 534) (by decide +kernel)) (z_in_gw (p := 536) (by decide +kernel)) dl_288 (Nat.le_of_ble_eq_true rfl) hc (fun v hv => by simp only [List.mem_cons, List.not_mem_nil, or_false] at hv; rcases hv with rfl | rfl <;> exact z_toir _) rM Rp hl.1 (Nat.le_of_ble_eq_true rfl) h2 ?_
  intro r σ1 H1 locs1 g1 g2 g3 g4
  refine lv_aload_n hx hb dl_291 rfl (lv_at hl 2 rfl) ?_
  refine lw_arg (j := 1) C0 hL he g4.2.2 hl (by omega) (by omega) hi0 hi1 dl_292 dl_293 dl_294 dl_295 dl_296 ?_
  refine lw_arg (j := 2) C0 hL he g4.2.2 hl (by omega) (by omega) hi0 hi1 dl_297 dl_298 dl_299 dl_300 dl_301 ?_
  refine lw_callC (y' := m_M_ask) (ph := 0) (As := [z_I (xs (i + 1).toNat).toInt, z_I (xs (i + 2).toNat).toInt]) (b0 := 701) (st := [.int (Int32.ofInt r)]) C0 hKS rfl (by decide +kernel) 2 rfl (by decide +kernel) (by decide +kernel) (by decide +kernel) (z_in_gw (p := 1122) (by decide +kernel)) (z_in_gw (p := 1124) (by decide +kernel)) dl_302 (Nat.le_of_ble_eq_true rfl) hc (fun v hv => by simp only [List.mem_cons, List.not_mem_nil, or_false] at hv; rcases hv with rfl | rfl <;> exact z_toir _) g2 g4 hl.1 (Nat.le_of_ble_eq_true rfl) g1 ?_
  intro r2 σ2 H2 locs2 f1 f2 f3 f4
  obtain ⟨rfl, f1⟩ := f1
  exact lv_icmp_eq (tgt := 830) hx hb dl_305 (by decide) (fun _ => k σ2 H2 locs2 f1 f2 f4) (fun w => absurd rfl w)
theorem lw_case_fresh {R : Nat → z_M → Prop} {n : Nat} {i : Int} (C0 : lw_At p s m meth c b L xs) (hL : L ≤ 2048) (he : e.2.1 = s.heap) (hKS : z_KS e s) (hl : lv_has la 4 (lw_l e b i)) (hi0 : 0 ≤ i) (hi1 : i + 3 < (L : Int)) (hc : cells ≤ 600000 ∧ slots ≤ 7302250) (rM : z_rM σ) (Rp : z_Rep e true 740 σ H locs) (h2 : z_two e n R m_C_fresh m_M_fresh [z_I (xs (i + 1).toNat).toInt, z_I (xs (i + 2).toNat).toInt] σ)
    (k : ∀ σ' H1 locs1, R (n + 1) σ' → z_rM σ' → z_Rep e true 740 σ' H1 locs1 → W p e.1 env room_1 s m #[.ref b] below meth c H1 locs1 cells slots QQ (F0 m 830 la [])) : W p e.1 env room_1 s m #[.ref b] below meth c H locs cells slots QQ (F0 m 310 la []) := by
  obtain ⟨hx, hb, -⟩ := id C0
  refine lv_aload_n hx hb dl_310 rfl (lv_at hl 1 rfl) ?_
  refine lw_arg (j := 1) C0 hL he Rp.2.2 hl (by omega) (by omega) hi0 hi1 dl_311 dl_312 dl_313 dl_314 dl_315 ?_
  refine lw_arg (j := 2) C0 hL he Rp.2.2 hl (by omega) (by omega) hi0 hi1 dl_316 dl_317 dl_318 dl_319 dl_320 ?_
  refine lw_callC (y' := m_C_fresh) (ph := 0) (As := [z_I (xs (i + 1).toNat).toInt, z_I (xs (i + 2).toNat).toInt]) (b0 := 0) (st := []) C0 hKS rfl (by decide +kernel) 2 rfl (by decide +kernel) (by decide +kernel) (by decide +kernel) (z_in_gw (p := 715) (by decide +kernel)) (z_in_gw (p := 717) (by decide +kernel)) dl_321 (Nat.le_of_ble_eq_true rfl) hc (fun v hv => by simp only [List.mem_cons, List.not_mem_nil, or_false] at hv; rcases hv with rfl | rfl <;> exact z_toir _) rM Rp hl.1 (Nat.le_of_ble_eq_true rfl) h2 ?_
  intro r σ1 H1 locs1 g1 g2 g3 g4
  refine lv_aload_n hx hb dl_324 rfl (lv_at hl 2 rfl) ?_
  refine lw_arg (j := 1) C0 hL he g4.2.2 hl (by omega) (by omega) hi0 hi1 dl_325 dl_326 dl_327 dl_328 dl_329 ?_
  refine lw_arg (j := 2) C0 hL he g4.2.2 hl (by omega) (by omega) hi0 hi1 dl_330 dl_331 dl_332 dl_333 dl_334 ?_
  refine lw_callC (y' := m_M_fresh) (ph := 0) (As := [z_I (xs (i + 1).toNat).toInt, z_I (xs (i + 2).toNat).toInt]) (b0 := 701) (st := [.int (Int32.ofInt r)]) C0 hKS rfl (by decide +kernel) 2 rfl (by decide +kernel) (by decide +kernel) (by decide +kernel) (z_in_gw (p := 1214) (by decide +kernel)) (z_in_gw (p := 1216) (by decide +kernel)) dl_335 (Nat.le_of_ble_eq_true rfl) hc (fun v hv => by simp only [List.mem_cons, List.not_mem_nil, or_false] at hv; rcases hv with rfl | rfl <;> exact z_toir _) g2 g4 hl.1 (Nat.le_of_ble_eq_true rfl) g1 ?_
  intro r2 σ2 H2 locs2 f1 f2 f3 f4
  obtain ⟨rfl, f1⟩ := f1
  exact lv_icmp_eq (tgt := 830) hx hb dl_338 (by decide) (fun _ => k σ2 H2 locs2 f1 f2 f4) (fun w => absurd rfl w)
theorem lw_case_steps {R : Nat → z_M → Prop} {n : Nat} {i : Int} (C0 : lw_At p s m meth c b L xs) (hL : L ≤ 2048) (he : e.2.1 = s.heap) (hKS : z_KS e s) (hl : lv_has la 4 (lw_l e b i)) (hi0 : 0 ≤ i) (hi1 : i + 3 < (L : Int)) (hc : cells ≤ 600000 ∧ slots ≤ 7302250) (rM : z_rM σ) (Rp : z_Rep e true 740 σ H locs) (h2 : z_two e n R m_C_steps m_M_steps [] σ)
    (k : ∀ σ' H1 locs1, R (n + 1) σ' → z_rM σ' → z_Rep e true 740 σ' H1 locs1 → W p e.1 env room_1 s m #[.ref b] below meth c H1 locs1 cells slots QQ (F0 m 830 la [])) : W p e.1 env room_1 s m #[.ref b] below meth c H locs cells slots QQ (F0 m 343 la []) := by
  obtain ⟨hx, hb, -⟩ := id C0
  refine lv_aload_n hx hb dl_343 rfl (lv_at hl 1 rfl) ?_
  refine lw_callC (y' := m_C_steps) (ph := 0) (As := []) (b0 := 0) (st := []) C0 hKS rfl (by decide +kernel) 0 rfl (by decide +kernel) (by decide +kernel) (by decide +kernel) (z_in_gw (p := 723) (by decide +kernel)) (z_in_gw (p := 725) (by decide +kernel)) dl_344 (Nat.le_of_ble_eq_true rfl) hc (fun v hv => by cases hv) rM Rp hl.1 (Nat.le_of_ble_eq_true rfl) h2 ?_
  intro r σ1 H1 locs1 g1 g2 g3 g4
  refine lv_aload_n hx hb dl_347 rfl (lv_at hl 2 rfl) ?_
  refine lw_callC (y' := m_M_steps) (ph := 0) (As := []) (b0 := 701) (st := [.int (Int32.ofInt r)]) C0 hKS rfl (by decide +kernel) 0 rfl (by decide +kernel) (by decide +kernel) (by decide +kernel) (z_in_gw (p := 1210) (by decide +kernel)) (z_in_gw (p := 1212) (by decide +kernel)) dl_348 (Nat.le_of_ble_eq_true rfl) hc (fun v hv => by cases hv) g2 g4 hl.1 (Nat.le_of_ble_eq_true rfl) g1 ?_
  intro r2 σ2 H2 locs2 f1 f2 f3 f4
  obtain ⟨rfl, f1⟩ := f1
  exact lv_icmp_eq (tgt := 830) hx hb dl_351 (by decide) (fun _ => k σ2 H2 locs2 f1 f2 f4) (fun w => absurd rfl w)
theorem lw_case_bound {R : Nat → z_M → Prop} {n : Nat} {i : Int} (C0 : lw_At p s m meth c b L xs) (hL : L ≤ 2048) (he : e.2.1 = s.heap) (hKS : z_KS e s) (hl : lv_has la 4 (lw_l e b i)) (hi0 : 0 ≤ i) (hi1 : i + 3 < (L : Int)) (hc : cells ≤ 600000 ∧ slots ≤ 7302250) (rM : z_rM σ) (Rp : z_Rep e true 740 σ H locs) (h2 : z_two e n R m_C_bound m_M_bound [z_I (xs (i + 1).toNat).toInt] σ)
    (k : ∀ σ' H1 locs1, R (n + 1) σ' → z_rM σ' → z_Rep e true 740 σ' H1 locs1 → W p e.1 env room_1 s m #[.ref b] below meth c H1 locs1 cells slots QQ (F0 m 830 la [])) : W p e.1 env room_1 s m #[.ref b] below meth c H locs cells slots QQ (F0 m 356 la []) := by
  obtain ⟨hx, hb, -⟩ := id C0
  refine lv_aload_n hx hb dl_356 rfl (lv_at hl 1 rfl) ?_
  refine lw_arg (j := 1) C0 hL he Rp.2.2 hl (by omega) (by omega) hi0 hi1 dl_357 dl_358 dl_359 dl_360 dl_361 ?_
  refine lw_callC (y' := m_C_bound) (ph := 0) (As := [z_I (xs (i + 1).toNat).toInt]) (b0 := 0) (st := []) C0 hKS rfl (by decide +kernel) 1 rfl (by decide +kernel) (by decide +kernel) (by decide +kernel) (z_in_gw (p := 727) (by decide +kernel)) (z_in_gw (p := 729) (by decide +kernel)) dl_362 (Nat.le_of_ble_eq_true rfl) hc (fun v hv => by simp only [List.mem_cons, List.not_mem_nil, or_false] at hv; rcases hv with rfl <;> exact z_toir _) rM Rp hl.1 (Nat.le_of_ble_eq_true rfl) h2 ?_
  intro r σ1 H1 locs1 g1 g2 g3 g4
  refine lv_aload_n hx hb dl_365 rfl (lv_at hl 2 rfl) ?_
  refine lw_arg (j := 1) C0 hL he g4.2.2 hl (by omega) (by omega) hi0 hi1 dl_366 dl_367 dl_368 dl_369 dl_370 ?_
  refine lw_callC (y' := m_M_bound) (ph := 0) (As := [z_I (xs (i + 1).toNat).toInt]) (b0 := 701) (st := [.int (Int32.ofInt r)]) C0 hKS rfl (by decide +kernel) 1 rfl (by decide +kernel) (by decide +kernel) (by decide +kernel) (z_in_gw (p := 1226) (by decide +kernel)) (z_in_gw (p := 1228) (by decide +kernel)) dl_371 (Nat.le_of_ble_eq_true rfl) hc (fun v hv => by simp only [List.mem_cons, List.not_mem_nil, or_false] at hv; rcases hv with rfl <;> exact z_toir _) g2 g4 hl.1 (Nat.le_of_ble_eq_true rfl) g1 ?_
  intro r2 σ2 H2 locs2 f1 f2 f3 f4
  obtain ⟨rfl, f1⟩ := f1
  exact lv_icmp_eq (tgt := 830) hx hb dl_374 (by decide) (fun _ => k σ2 H2 locs2 f1 f2 f4) (fun w => absurd rfl w)
theorem lw_case_policy {R : Nat → z_M → Prop} {n : Nat} {i : Int} (C0 : lw_At p s m meth c b L xs) (hL : L ≤ 2048) (he : e.2.1 = s.heap) (hKS : z_KS e s) (hl : lv_has la 4 (lw_l e b i)) (hi0 : 0 ≤ i) (hi1 : i + 3 < (L : Int)) (hc : cells ≤ 600000 ∧ slots ≤ 7302250) (rM : z_rM σ) (Rp : z_Rep e true 740 σ H locs) (h2 : z_two e n R m_C_policy m_M_policy [z_I (xs (i + 1).toNat).toInt] σ)
    (k : ∀ σ' H1 locs1, R (n + 1) σ' → z_rM σ' → z_Rep e true 740 σ' H1 locs1 → W p e.1 env room_1 s m #[.ref b] below meth c H1 locs1 cells slots QQ (F0 m 830 la [])) : W p e.1 env room_1 s m #[.ref b] below meth c H locs cells slots QQ (F0 m 379 la []) := by
  obtain ⟨hx, hb, -⟩ := id C0
  refine lv_aload_n hx hb dl_379 rfl (lv_at hl 1 rfl) ?_
  refine lw_arg (j := 1) C0 hL he Rp.2.2 hl (by omega) (by omega) hi0 hi1 dl_380 dl_381 dl_382 dl_383 dl_384 ?_
  refine lw_callC (y' := m_C_policy) (ph := 0) (As := [z_I (xs (i + 1).toNat).toInt]) (b0 := 0) (st := []) C0 hKS rfl (by decide +kernel) 1 rfl (by decide +kernel) (by decide +kernel) (by decide +kernel) (z_in_gw (p := 731) (by decide +kernel)) (z_in_gw (p := 733) (by decide +kernel)) dl_385 (Nat.le_of_ble_eq_true rfl) hc (fun v hv => by simp only [List.mem_cons, List.not_mem_nil, or_false] at hv; rcases hv with rfl <;> exact z_toir _) rM Rp hl.1 (Nat.le_of_ble_eq_true rfl) h2 ?_
  intro r σ1 H1 locs1 g1 g2 g3 g4
  refine lv_aload_n hx hb dl_388 rfl (lv_at hl 2 rfl) ?_
  refine lw_arg (j := 1) C0 hL he g4.2.2 hl (by omega) (by omega) hi0 hi1 dl_389 dl_390 dl_391 dl_392 dl_393 ?_
  refine lw_callC (y' := m_M_policy) (ph := 0) (As := [z_I (xs (i + 1).toNat).toInt]) (b0 := 701) (st := [.int (Int32.ofInt r)]) C0 hKS rfl (by decide +kernel) 1 rfl (by decide +kernel) (by decide +kernel) (by decide +kernel) (z_in_gw (p := 1231) (by decide +kernel)) (z_in_gw (p := 1233) (by decide +kernel)) dl_394 (Nat.le_of_ble_eq_true rfl) hc (fun v hv => by simp only [List.mem_cons, List.not_mem_nil, or_false] at hv; rcases hv with rfl <;> exact z_toir _) g2 g4 hl.1 (Nat.le_of_ble_eq_true rfl) g1 ?_
  intro r2 σ2 H2 locs2 f1 f2 f3 f4
  obtain ⟨rfl, f1⟩ := f1
  exact lv_icmp_eq (tgt := 830) hx hb dl_397 (by decide) (fun _ => k σ2 H2 locs2 f1 f2 f4) (fun w => absurd rfl w)
theorem lw_case_kept {R : Nat → z_M → Prop} {n : Nat} {i : Int} (C0 : lw_At p s m meth c b L xs) (hL : L ≤ 2048) (he : e.2.1 = s.heap) (hKS : z_KS e s) (hl : lv_has la 4 (lw_l e b i)) (hi0 : 0 ≤ i) (hi1 : i + 3 < (L : Int)) (hc : cells ≤ 600000 ∧ slots ≤ 7302250) (rM : z_rM σ) (Rp : z_Rep e true 740 σ H locs) (h2 : z_two e n R m_C_kept m_M_kept [z_I (xs (i + 1).toNat).toInt, z_I (xs (i + 2).toNat).toInt] σ)
    (k : ∀ σ' H1 locs1, R (n + 1) σ' → z_rM σ' → z_Rep e true 740 σ' H1 locs1 → W p e.1 env room_1 s m #[.ref b] below meth c H1 locs1 cells slots QQ (F0 m 830 la [])) : W p e.1 env room_1 s m #[.ref b] below meth c H locs cells slots QQ (F0 m 402 la []) := by
  obtain ⟨hx, hb, -⟩ := id C0
  refine lv_aload_n hx hb dl_402 rfl (lv_at hl 1 rfl) ?_
  refine lw_arg (j := 1) C0 hL he Rp.2.2 hl (by omega) (by omega) hi0 hi1 dl_403 dl_404 dl_405 dl_406 dl_407 ?_
  refine lw_arg (j := 2) C0 hL he Rp.2.2 hl (by omega) (by omega) hi0 hi1 dl_408 dl_409 dl_410 dl_411 dl_412 ?_
  refine lw_callC (y' := m_C_kept) (ph := 0) (As := [z_I (xs (i + 1).toNat).toInt, z_I (xs (i + 2).toNat).toInt]) (b0 := 0) (st := []) C0 hKS rfl (by decide +kernel) 2 rfl (by decide +kernel) (by decide +kernel) (by decide +kernel) (z_in_gw (p := 735) (by decide +kernel)) (z_in_gw (p := 737) (by decide +kernel)) dl_413 (Nat.le_of_ble_eq_true rfl) hc (fun v hv => by simp only [List.mem_cons, List.not_mem_nil, or_false] at hv; rcases hv with rfl | rfl <;> exact z_toir _) rM Rp hl.1 (Nat.le_of_ble_eq_true rfl) h2 ?_
  intro r σ1 H1 locs1 g1 g2 g3 g4
  refine lv_aload_n hx hb dl_416 rfl (lv_at hl 2 rfl) ?_
  refine lw_arg (j := 1) C0 hL he g4.2.2 hl (by omega) (by omega) hi0 hi1 dl_417 dl_418 dl_419 dl_420 dl_421 ?_
  refine lw_arg (j := 2) C0 hL he g4.2.2 hl (by omega) (by omega) hi0 hi1 dl_422 dl_423 dl_424 dl_425 dl_426 ?_
  refine lw_callC (y' := m_M_kept) (ph := 0) (As := [z_I (xs (i + 1).toNat).toInt, z_I (xs (i + 2).toNat).toInt]) (b0 := 701) (st := [.int (Int32.ofInt r)]) C0 hKS rfl (by decide +kernel) 2 rfl (by decide +kernel) (by decide +kernel) (by decide +kernel) (z_in_gw (p := 1236) (by decide +kernel)) (z_in_gw (p := 1238) (by decide +kernel)) dl_427 (Nat.le_of_ble_eq_true rfl) hc (fun v hv => by simp only [List.mem_cons, List.not_mem_nil, or_false] at hv; rcases hv with rfl | rfl <;> exact z_toir _) g2 g4 hl.1 (Nat.le_of_ble_eq_true rfl) g1 ?_
  intro r2 σ2 H2 locs2 f1 f2 f3 f4
  obtain ⟨rfl, f1⟩ := f1
  exact lv_icmp_eq (tgt := 830) hx hb dl_430 (by decide) (fun _ => k σ2 H2 locs2 f1 f2 f4) (fun w => absurd rfl w)
theorem lw_case_asked {R : Nat → z_M → Prop} {n : Nat} {i : Int} (C0 : lw_At p s m meth c b L xs) (hL : L ≤ 2048) (he : e.2.1 = s.heap) (hKS : z_KS e s) (hl : lv_has la 4 (lw_l e b i)) (hi0 : 0 ≤ i) (hi1 : i + 3 < (L : Int)) (hc : cells ≤ 600000 ∧ slots ≤ 7302250) (rM : z_rM σ) (Rp : z_Rep e true 740 σ H locs) (h2 : z_two e n R m_C_asked m_M_asked [z_I (xs (i + 1).toNat).toInt, z_I (xs (i + 2).toNat).toInt] σ)
    (k : ∀ σ' H1 locs1, R (n + 1) σ' → z_rM σ' → z_Rep e true 740 σ' H1 locs1 → W p e.1 env room_1 s m #[.ref b] below meth c H1 locs1 cells slots QQ (F0 m 830 la [])) : W p e.1 env room_1 s m #[.ref b] below meth c H locs cells slots QQ (F0 m 435 la []) := by
  obtain ⟨hx, hb, -⟩ := id C0
  refine lv_aload_n hx hb dl_435 rfl (lv_at hl 1 rfl) ?_
  refine lw_arg (j := 1) C0 hL he Rp.2.2 hl (by omega) (by omega) hi0 hi1 dl_436 dl_437 dl_438 dl_439 dl_440 ?_
  refine lw_arg (j := 2) C0 hL he Rp.2.2 hl (by omega) (by omega) hi0 hi1 dl_441 dl_442 dl_443 dl_444 dl_445 ?_
  refine lw_callC (y' := m_C_asked) (ph := 0) (As := [z_I (xs (i + 1).toNat).toInt, z_I (xs (i + 2).toNat).toInt]) (b0 := 0) (st := []) C0 hKS rfl (by decide +kernel) 2 rfl (by decide +kernel) (by decide +kernel) (by decide +kernel) (z_in_gw (p := 743) (by decide +kernel)) (z_in_gw (p := 745) (by decide +kernel)) dl_446 (Nat.le_of_ble_eq_true rfl) hc (fun v hv => by simp only [List.mem_cons, List.not_mem_nil, or_false] at hv; rcases hv with rfl | rfl <;> exact z_toir _) rM Rp hl.1 (Nat.le_of_ble_eq_true rfl) h2 ?_
  intro r σ1 H1 locs1 g1 g2 g3 g4
  refine lv_aload_n hx hb dl_449 rfl (lv_at hl 2 rfl) ?_
  refine lw_arg (j := 1) C0 hL he g4.2.2 hl (by omega) (by omega) hi0 hi1 dl_450 dl_451 dl_452 dl_453 dl_454 ?_
  refine lw_arg (j := 2) C0 hL he g4.2.2 hl (by omega) (by omega) hi0 hi1 dl_455 dl_456 dl_457 dl_458 dl_459 ?_
  refine lw_callC (y' := m_M_asked) (ph := 0) (As := [z_I (xs (i + 1).toNat).toInt, z_I (xs (i + 2).toNat).toInt]) (b0 := 701) (st := [.int (Int32.ofInt r)]) C0 hKS rfl (by decide +kernel) 2 rfl (by decide +kernel) (by decide +kernel) (by decide +kernel) (z_in_gw (p := 1245) (by decide +kernel)) (z_in_gw (p := 1247) (by decide +kernel)) dl_460 (Nat.le_of_ble_eq_true rfl) hc (fun v hv => by simp only [List.mem_cons, List.not_mem_nil, or_false] at hv; rcases hv with rfl | rfl <;> exact z_toir _) g2 g4 hl.1 (Nat.le_of_ble_eq_true rfl) g1 ?_
  intro r2 σ2 H2 locs2 f1 f2 f3 f4
  obtain ⟨rfl, f1⟩ := f1
  exact lv_icmp_eq (tgt := 830) hx hb dl_463 (by decide) (fun _ => k σ2 H2 locs2 f1 f2 f4) (fun w => absurd rfl w)
theorem lw_case_key {R : Nat → z_M → Prop} {n : Nat} {i : Int} (C0 : lw_At p s m meth c b L xs) (hL : L ≤ 2048) (he : e.2.1 = s.heap) (hKS : z_KS e s) (hl : lv_has la 4 (lw_l e b i)) (hi0 : 0 ≤ i) (hi1 : i + 3 < (L : Int)) (hc : cells ≤ 600000 ∧ slots ≤ 7302250) (rM : z_rM σ) (Rp : z_Rep e true 740 σ H locs) (h2 : z_two e n R m_C_key m_M_key [z_I (xs (i + 1).toNat).toInt, z_I (xs (i + 2).toNat).toInt] σ)
    (k : ∀ σ' H1 locs1, R (n + 1) σ' → z_rM σ' → z_Rep e true 740 σ' H1 locs1 → W p e.1 env room_1 s m #[.ref b] below meth c H1 locs1 cells slots QQ (F0 m 830 la [])) : W p e.1 env room_1 s m #[.ref b] below meth c H locs cells slots QQ (F0 m 468 la []) := by
  obtain ⟨hx, hb, -⟩ := id C0
  refine lv_aload_n hx hb dl_468 rfl (lv_at hl 1 rfl) ?_
  refine lw_arg (j := 1) C0 hL he Rp.2.2 hl (by omega) (by omega) hi0 hi1 dl_469 dl_470 dl_471 dl_472 dl_473 ?_
  refine lw_arg (j := 2) C0 hL he Rp.2.2 hl (by omega) (by omega) hi0 hi1 dl_474 dl_475 dl_476 dl_477 dl_478 ?_
  refine lw_callC (y' := m_C_key) (ph := 0) (As := [z_I (xs (i + 1).toNat).toInt, z_I (xs (i + 2).toNat).toInt]) (b0 := 0) (st := []) C0 hKS rfl (by decide +kernel) 2 rfl (by decide +kernel) (by decide +kernel) (by decide +kernel) (z_in_gw (p := 747) (by decide +kernel)) (z_in_gw (p := 749) (by decide +kernel)) dl_479 (Nat.le_of_ble_eq_true rfl) hc (fun v hv => by simp only [List.mem_cons, List.not_mem_nil, or_false] at hv; rcases hv with rfl | rfl <;> exact z_toir _) rM Rp hl.1 (Nat.le_of_ble_eq_true rfl) h2 ?_
  intro r σ1 H1 locs1 g1 g2 g3 g4
  refine lv_aload_n hx hb dl_482 rfl (lv_at hl 2 rfl) ?_
  refine lw_arg (j := 1) C0 hL he g4.2.2 hl (by omega) (by omega) hi0 hi1 dl_483 dl_484 dl_485 dl_486 dl_487 ?_
  refine lw_arg (j := 2) C0 hL he g4.2.2 hl (by omega) (by omega) hi0 hi1 dl_488 dl_489 dl_490 dl_491 dl_492 ?_
  refine lw_callC (y' := m_M_key) (ph := 0) (As := [z_I (xs (i + 1).toNat).toInt, z_I (xs (i + 2).toNat).toInt]) (b0 := 701) (st := [.int (Int32.ofInt r)]) C0 hKS rfl (by decide +kernel) 2 rfl (by decide +kernel) (by decide +kernel) (by decide +kernel) (z_in_gw (p := 1249) (by decide +kernel)) (z_in_gw (p := 1251) (by decide +kernel)) dl_493 (Nat.le_of_ble_eq_true rfl) hc (fun v hv => by simp only [List.mem_cons, List.not_mem_nil, or_false] at hv; rcases hv with rfl | rfl <;> exact z_toir _) g2 g4 hl.1 (Nat.le_of_ble_eq_true rfl) g1 ?_
  intro r2 σ2 H2 locs2 f1 f2 f3 f4
  obtain ⟨rfl, f1⟩ := f1
  exact lv_icmp_eq (tgt := 830) hx hb dl_496 (by decide) (fun _ => k σ2 H2 locs2 f1 f2 f4) (fun w => absurd rfl w)
theorem lw_case_wave {R : Nat → z_M → Prop} {n : Nat} {i : Int} (C0 : lw_At p s m meth c b L xs) (hL : L ≤ 2048) (he : e.2.1 = s.heap) (hKS : z_KS e s) (hl : lv_has la 4 (lw_l e b i)) (hi0 : 0 ≤ i) (hi1 : i + 3 < (L : Int)) (hc : cells ≤ 600000 ∧ slots ≤ 7302250) (rM : z_rM σ) (Rp : z_Rep e true 740 σ H locs) (h2 : z_two e n R m_C_wave m_M_wave [z_I (xs (i + 1).toNat).toInt] σ)
    (k : ∀ σ' H1 locs1, R (n + 1) σ' → z_rM σ' → z_Rep e true 740 σ' H1 locs1 → W p e.1 env room_1 s m #[.ref b] below meth c H1 locs1 cells slots QQ (F0 m 830 la [])) : W p e.1 env room_1 s m #[.ref b] below meth c H locs cells slots QQ (F0 m 501 la []) := by
  obtain ⟨hx, hb, -⟩ := id C0
  refine lv_aload_n hx hb dl_501 rfl (lv_at hl 1 rfl) ?_
  refine lw_arg (j := 1) C0 hL he Rp.2.2 hl (by omega) (by omega) hi0 hi1 dl_502 dl_503 dl_504 dl_505 dl_506 ?_
  refine lw_callC (y' := m_C_wave) (ph := 0) (As := [z_I (xs (i + 1).toNat).toInt]) (b0 := 0) (st := []) C0 hKS rfl (by decide +kernel) 1 rfl (by decide +kernel) (by decide +kernel) (by decide +kernel) (z_in_gw (p := 755) (by decide +kernel)) (z_in_gw (p := 757) (by decide +kernel)) dl_507 (Nat.le_of_ble_eq_true rfl) hc (fun v hv => by simp only [List.mem_cons, List.not_mem_nil, or_false] at hv; rcases hv with rfl <;> exact z_toir _) rM Rp hl.1 (Nat.le_of_ble_eq_true rfl) h2 ?_
  intro r σ1 H1 locs1 g1 g2 g3 g4
  refine lv_aload_n hx hb dl_510 rfl (lv_at hl 2 rfl) ?_
  refine lw_arg (j := 1) C0 hL he g4.2.2 hl (by omega) (by omega) hi0 hi1 dl_511 dl_512 dl_513 dl_514 dl_515 ?_
  refine lw_callC (y' := m_M_wave) (ph := 0) (As := [z_I (xs (i + 1).toNat).toInt]) (b0 := 701) (st := [.int (Int32.ofInt r)]) C0 hKS rfl (by decide +kernel) 1 rfl (by decide +kernel) (by decide +kernel) (by decide +kernel) (z_in_gw (p := 1253) (by decide +kernel)) (z_in_gw (p := 1255) (by decide +kernel)) dl_516 (Nat.le_of_ble_eq_true rfl) hc (fun v hv => by simp only [List.mem_cons, List.not_mem_nil, or_false] at hv; rcases hv with rfl <;> exact z_toir _) g2 g4 hl.1 (Nat.le_of_ble_eq_true rfl) g1 ?_
  intro r2 σ2 H2 locs2 f1 f2 f3 f4
  obtain ⟨rfl, f1⟩ := f1
  exact lv_icmp_eq (tgt := 830) hx hb dl_519 (by decide) (fun _ => k σ2 H2 locs2 f1 f2 f4) (fun w => absurd rfl w)
theorem lw_case_would {R : Nat → z_M → Prop} {n : Nat} {i : Int} (C0 : lw_At p s m meth c b L xs) (hL : L ≤ 2048) (he : e.2.1 = s.heap) (hKS : z_KS e s) (hl : lv_has la 4 (lw_l e b i)) (hi0 : 0 ≤ i) (hi1 : i + 3 < (L : Int)) (hc : cells ≤ 600000 ∧ slots ≤ 7302250) (rM : z_rM σ) (Rp : z_Rep e true 740 σ H locs) (h2 : z_two e n R m_C_would m_M_would [z_I (xs (i + 1).toNat).toInt] σ)
    (k : ∀ σ' H1 locs1, R (n + 1) σ' → z_rM σ' → z_Rep e true 740 σ' H1 locs1 → W p e.1 env room_1 s m #[.ref b] below meth c H1 locs1 cells slots QQ (F0 m 830 la [])) : W p e.1 env room_1 s m #[.ref b] below meth c H locs cells slots QQ (F0 m 524 la []) := by
  obtain ⟨hx, hb, -⟩ := id C0
  refine lv_aload_n hx hb dl_524 rfl (lv_at hl 1 rfl) ?_
  refine lw_arg (j := 1) C0 hL he Rp.2.2 hl (by omega) (by omega) hi0 hi1 dl_525 dl_526 dl_527 dl_528 dl_529 ?_
  refine lw_callC (y' := m_C_would) (ph := 0) (As := [z_I (xs (i + 1).toNat).toInt]) (b0 := 0) (st := []) C0 hKS rfl (by decide +kernel) 1 rfl (by decide +kernel) (by decide +kernel) (by decide +kernel) (z_in_gw (p := 759) (by decide +kernel)) (z_in_gw (p := 761) (by decide +kernel)) dl_530 (Nat.le_of_ble_eq_true rfl) hc (fun v hv => by simp only [List.mem_cons, List.not_mem_nil, or_false] at hv; rcases hv with rfl <;> exact z_toir _) rM Rp hl.1 (Nat.le_of_ble_eq_true rfl) h2 ?_
  intro r σ1 H1 locs1 g1 g2 g3 g4
  refine lv_aload_n hx hb dl_533 rfl (lv_at hl 2 rfl) ?_
  refine lw_arg (j := 1) C0 hL he g4.2.2 hl (by omega) (by omega) hi0 hi1 dl_534 dl_535 dl_536 dl_537 dl_538 ?_
  refine lw_callC (y' := m_M_would) (ph := 0) (As := [z_I (xs (i + 1).toNat).toInt]) (b0 := 701) (st := [.int (Int32.ofInt r)]) C0 hKS rfl (by decide +kernel) 1 rfl (by decide +kernel) (by decide +kernel) (by decide +kernel) (z_in_gw (p := 1257) (by decide +kernel)) (z_in_gw (p := 1259) (by decide +kernel)) dl_539 (Nat.le_of_ble_eq_true rfl) hc (fun v hv => by simp only [List.mem_cons, List.not_mem_nil, or_false] at hv; rcases hv with rfl <;> exact z_toir _) g2 g4 hl.1 (Nat.le_of_ble_eq_true rfl) g1 ?_
  intro r2 σ2 H2 locs2 f1 f2 f3 f4
  obtain ⟨rfl, f1⟩ := f1
  exact lv_icmp_eq (tgt := 830) hx hb dl_542 (by decide) (fun _ => k σ2 H2 locs2 f1 f2 f4) (fun w => absurd rfl w)
theorem lw_case_heirs {R : Nat → z_M → Prop} {n : Nat} {i : Int} (C0 : lw_At p s m meth c b L xs) (hL : L ≤ 2048) (he : e.2.1 = s.heap) (hKS : z_KS e s) (hl : lv_has la 4 (lw_l e b i)) (hi0 : 0 ≤ i) (hi1 : i + 3 < (L : Int)) (hc : cells ≤ 600000 ∧ slots ≤ 7302250) (rM : z_rM σ) (Rp : z_Rep e true 740 σ H locs) (h2 : z_two e n R m_C_heirs m_M_heirs [z_I (xs (i + 1).toNat).toInt] σ)
    (k : ∀ σ' H1 locs1, R (n + 1) σ' → z_rM σ' → z_Rep e true 740 σ' H1 locs1 → W p e.1 env room_1 s m #[.ref b] below meth c H1 locs1 cells slots QQ (F0 m 830 la [])) : W p e.1 env room_1 s m #[.ref b] below meth c H locs cells slots QQ (F0 m 547 la []) := by
  obtain ⟨hx, hb, -⟩ := id C0
  refine lv_aload_n hx hb dl_547 rfl (lv_at hl 1 rfl) ?_
  refine lw_arg (j := 1) C0 hL he Rp.2.2 hl (by omega) (by omega) hi0 hi1 dl_548 dl_549 dl_550 dl_551 dl_552 ?_
  refine lw_callC (y' := m_C_heirs) (ph := 0) (As := [z_I (xs (i + 1).toNat).toInt]) (b0 := 0) (st := []) C0 hKS rfl (by decide +kernel) 1 rfl (by decide +kernel) (by decide +kernel) (by decide +kernel) (z_in_gw (p := 767) (by decide +kernel)) (z_in_gw (p := 769) (by decide +kernel)) dl_553 (Nat.le_of_ble_eq_true rfl) hc (fun v hv => by simp only [List.mem_cons, List.not_mem_nil, or_false] at hv; rcases hv with rfl <;> exact z_toir _) rM Rp hl.1 (Nat.le_of_ble_eq_true rfl) h2 ?_
  intro r σ1 H1 locs1 g1 g2 g3 g4
  refine lv_aload_n hx hb dl_556 rfl (lv_at hl 2 rfl) ?_
  refine lw_arg (j := 1) C0 hL he g4.2.2 hl (by omega) (by omega) hi0 hi1 dl_557 dl_558 dl_559 dl_560 dl_561 ?_
  refine lw_callC (y' := m_M_heirs) (ph := 0) (As := [z_I (xs (i + 1).toNat).toInt]) (b0 := 701) (st := [.int (Int32.ofInt r)]) C0 hKS rfl (by decide +kernel) 1 rfl (by decide +kernel) (by decide +kernel) (by decide +kernel) (z_in_gw (p := 1262) (by decide +kernel)) (z_in_gw (p := 1264) (by decide +kernel)) dl_562 (Nat.le_of_ble_eq_true rfl) hc (fun v hv => by simp only [List.mem_cons, List.not_mem_nil, or_false] at hv; rcases hv with rfl <;> exact z_toir _) g2 g4 hl.1 (Nat.le_of_ble_eq_true rfl) g1 ?_
  intro r2 σ2 H2 locs2 f1 f2 f3 f4
  obtain ⟨rfl, f1⟩ := f1
  exact lv_icmp_eq (tgt := 830) hx hb dl_565 (by decide) (fun _ => k σ2 H2 locs2 f1 f2 f4) (fun w => absurd rfl w)
theorem lw_case_chain {R : Nat → z_M → Prop} {n : Nat} {i : Int} (C0 : lw_At p s m meth c b L xs) (hL : L ≤ 2048) (he : e.2.1 = s.heap) (hKS : z_KS e s) (hl : lv_has la 4 (lw_l e b i)) (hi0 : 0 ≤ i) (hi1 : i + 3 < (L : Int)) (hc : cells ≤ 600000 ∧ slots ≤ 7302250) (rM : z_rM σ) (Rp : z_Rep e true 740 σ H locs) (h2 : z_two e n R m_C_chain m_M_chain [z_I (xs (i + 1).toNat).toInt] σ)
    (k : ∀ σ' H1 locs1, R (n + 1) σ' → z_rM σ' → z_Rep e true 740 σ' H1 locs1 → W p e.1 env room_1 s m #[.ref b] below meth c H1 locs1 cells slots QQ (F0 m 830 la [])) : W p e.1 env room_1 s m #[.ref b] below meth c H locs cells slots QQ (F0 m 570 la []) := by
  obtain ⟨hx, hb, -⟩ := id C0
  refine lv_aload_n hx hb dl_570 rfl (lv_at hl 1 rfl) ?_
  refine lw_arg (j := 1) C0 hL he Rp.2.2 hl (by omega) (by omega) hi0 hi1 dl_571 dl_572 dl_573 dl_574 dl_575 ?_
  refine lw_callC (y' := m_C_chain) (ph := 0) (As := [z_I (xs (i + 1).toNat).toInt]) (b0 := 0) (st := []) C0 hKS rfl (by decide +kernel) 1 rfl (by decide +kernel) (by decide +kernel) (by decide +kernel) (z_in_gw (p := 783) (by decide +kernel)) (z_in_gw (p := 785) (by decide +kernel)) dl_576 (Nat.le_of_ble_eq_true rfl) hc (fun v hv => by simp only [List.mem_cons, List.not_mem_nil, or_false] at hv; rcases hv with rfl <;> exact z_toir _) rM Rp hl.1 (Nat.le_of_ble_eq_true rfl) h2 ?_
  intro r σ1 H1 locs1 g1 g2 g3 g4
  refine lv_aload_n hx hb dl_579 rfl (lv_at hl 2 rfl) ?_
  refine lw_arg (j := 1) C0 hL he g4.2.2 hl (by omega) (by omega) hi0 hi1 dl_580 dl_581 dl_582 dl_583 dl_584 ?_
  refine lw_callC (y' := m_M_chain) (ph := 0) (As := [z_I (xs (i + 1).toNat).toInt]) (b0 := 701) (st := [.int (Int32.ofInt r)]) C0 hKS rfl (by decide +kernel) 1 rfl (by decide +kernel) (by decide +kernel) (by decide +kernel) (z_in_gw (p := 1270) (by decide +kernel)) (z_in_gw (p := 1272) (by decide +kernel)) dl_585 (Nat.le_of_ble_eq_true rfl) hc (fun v hv => by simp only [List.mem_cons, List.not_mem_nil, or_false] at hv; rcases hv with rfl <;> exact z_toir _) g2 g4 hl.1 (Nat.le_of_ble_eq_true rfl) g1 ?_
  intro r2 σ2 H2 locs2 f1 f2 f3 f4
  obtain ⟨rfl, f1⟩ := f1
  exact lv_icmp_eq (tgt := 830) hx hb dl_588 (by decide) (fun _ => k σ2 H2 locs2 f1 f2 f4) (fun w => absurd rfl w)
theorem lw_case_next {R : Nat → z_M → Prop} {n : Nat} {i : Int} (C0 : lw_At p s m meth c b L xs) (hL : L ≤ 2048) (he : e.2.1 = s.heap) (hKS : z_KS e s) (hl : lv_has la 4 (lw_l e b i)) (hi0 : 0 ≤ i) (hi1 : i + 3 < (L : Int)) (hc : cells ≤ 600000 ∧ slots ≤ 7302250) (rM : z_rM σ) (Rp : z_Rep e true 740 σ H locs) (h2 : z_two e n R m_C_next m_M_next [] σ)
    (k : ∀ σ' H1 locs1, R (n + 1) σ' → z_rM σ' → z_Rep e true 740 σ' H1 locs1 → W p e.1 env room_1 s m #[.ref b] below meth c H1 locs1 cells slots QQ (F0 m 830 la [])) : W p e.1 env room_1 s m #[.ref b] below meth c H locs cells slots QQ (F0 m 593 la []) := by
  obtain ⟨hx, hb, -⟩ := id C0
  refine lv_aload_n hx hb dl_593 rfl (lv_at hl 1 rfl) ?_
  refine lw_callC (y' := m_C_next) (ph := 0) (As := []) (b0 := 0) (st := []) C0 hKS rfl (by decide +kernel) 0 rfl (by decide +kernel) (by decide +kernel) (by decide +kernel) (z_in_gw (p := 791) (by decide +kernel)) (z_in_gw (p := 793) (by decide +kernel)) dl_594 (Nat.le_of_ble_eq_true rfl) hc (fun v hv => by cases hv) rM Rp hl.1 (Nat.le_of_ble_eq_true rfl) h2 ?_
  intro r σ1 H1 locs1 g1 g2 g3 g4
  refine lv_aload_n hx hb dl_597 rfl (lv_at hl 2 rfl) ?_
  refine lw_callC (y' := m_M_next) (ph := 0) (As := []) (b0 := 701) (st := [.int (Int32.ofInt r)]) C0 hKS rfl (by decide +kernel) 0 rfl (by decide +kernel) (by decide +kernel) (by decide +kernel) (z_in_gw (p := 1274) (by decide +kernel)) (z_in_gw (p := 1276) (by decide +kernel)) dl_598 (Nat.le_of_ble_eq_true rfl) hc (fun v hv => by cases hv) g2 g4 hl.1 (Nat.le_of_ble_eq_true rfl) g1 ?_
  intro r2 σ2 H2 locs2 f1 f2 f3 f4
  obtain ⟨rfl, f1⟩ := f1
  exact lv_icmp_eq (tgt := 830) hx hb dl_601 (by decide) (fun _ => k σ2 H2 locs2 f1 f2 f4) (fun w => absurd rfl w)
theorem lw_case_clear {R : Nat → z_M → Prop} {n : Nat} {i : Int} (C0 : lw_At p s m meth c b L xs) (hL : L ≤ 2048) (he : e.2.1 = s.heap) (hKS : z_KS e s) (hl : lv_has la 4 (lw_l e b i)) (hi0 : 0 ≤ i) (hi1 : i + 3 < (L : Int)) (hc : cells ≤ 600000 ∧ slots ≤ 7302250) (rM : z_rM σ) (Rp : z_Rep e true 740 σ H locs) (h2 : z_two e n R m_C_clear m_M_clear [] σ)
    (k : ∀ σ' H1 locs1, R (n + 1) σ' → z_rM σ' → z_Rep e true 740 σ' H1 locs1 → W p e.1 env room_1 s m #[.ref b] below meth c H1 locs1 cells slots QQ (F0 m 830 la [])) : W p e.1 env room_1 s m #[.ref b] below meth c H locs cells slots QQ (F0 m 606 la []) := by
  obtain ⟨hx, hb, -⟩ := id C0
  refine lv_aload_n hx hb dl_606 rfl (lv_at hl 1 rfl) ?_
  refine lw_callC (y' := m_C_clear) (ph := 0) (As := []) (b0 := 0) (st := []) C0 hKS rfl (by decide +kernel) 0 rfl (by decide +kernel) (by decide +kernel) (by decide +kernel) (z_in_gw (p := 796) (by decide +kernel)) (z_in_gw (p := 798) (by decide +kernel)) dl_607 (Nat.le_of_ble_eq_true rfl) hc (fun v hv => by cases hv) rM Rp hl.1 (Nat.le_of_ble_eq_true rfl) h2 ?_
  intro r σ1 H1 locs1 g1 g2 g3 g4
  refine lv_aload_n hx hb dl_610 rfl (lv_at hl 2 rfl) ?_
  refine lw_callC (y' := m_M_clear) (ph := 0) (As := []) (b0 := 701) (st := [.int (Int32.ofInt r)]) C0 hKS rfl (by decide +kernel) 0 rfl (by decide +kernel) (by decide +kernel) (by decide +kernel) (z_in_gw (p := 1278) (by decide +kernel)) (z_in_gw (p := 1280) (by decide +kernel)) dl_611 (Nat.le_of_ble_eq_true rfl) hc (fun v hv => by cases hv) g2 g4 hl.1 (Nat.le_of_ble_eq_true rfl) g1 ?_
  intro r2 σ2 H2 locs2 f1 f2 f3 f4
  obtain ⟨rfl, f1⟩ := f1
  exact lv_icmp_eq (tgt := 830) hx hb dl_614 (by decide) (fun _ => k σ2 H2 locs2 f1 f2 f4) (fun w => absurd rfl w)
theorem lw_case_start {R : Nat → z_M → Prop} {n : Nat} {i : Int} (C0 : lw_At p s m meth c b L xs) (hL : L ≤ 2048) (he : e.2.1 = s.heap) (hKS : z_KS e s) (hl : lv_has la 4 (lw_l e b i)) (hi0 : 0 ≤ i) (hi1 : i + 3 < (L : Int)) (hc : cells ≤ 600000 ∧ slots ≤ 7302250) (rM : z_rM σ) (Rp : z_Rep e true 740 σ H locs) (h2 : z_two e n R m_C_start m_M_start [z_I (xs (i + 1).toNat).toInt, z_I (xs (i + 2).toNat).toInt, z_I (xs (i + 3).toNat).toInt] σ)
    (k : ∀ σ' H1 locs1, R (n + 1) σ' → z_rM σ' → z_Rep e true 740 σ' H1 locs1 → W p e.1 env room_1 s m #[.ref b] below meth c H1 locs1 cells slots QQ (F0 m 830 la [])) : W p e.1 env room_1 s m #[.ref b] below meth c H locs cells slots QQ (F0 m 619 la []) := by
  obtain ⟨hx, hb, -⟩ := id C0
  refine lv_aload_n hx hb dl_619 rfl (lv_at hl 1 rfl) ?_
  refine lw_arg (j := 1) C0 hL he Rp.2.2 hl (by omega) (by omega) hi0 hi1 dl_620 dl_621 dl_622 dl_623 dl_624 ?_
  refine lw_arg (j := 2) C0 hL he Rp.2.2 hl (by omega) (by omega) hi0 hi1 dl_625 dl_626 dl_627 dl_628 dl_629 ?_
  refine lw_arg (j := 3) C0 hL he Rp.2.2 hl (by omega) (by omega) hi0 hi1 dl_630 dl_631 dl_632 dl_633 dl_634 ?_
  refine lw_callC (y' := m_C_start) (ph := 0) (As := [z_I (xs (i + 1).toNat).toInt, z_I (xs (i + 2).toNat).toInt, z_I (xs (i + 3).toNat).toInt]) (b0 := 0) (st := []) C0 hKS rfl (by decide +kernel) 3 rfl (by decide +kernel) (by decide +kernel) (by decide +kernel) (z_in_gw (p := 804) (by decide +kernel)) (z_in_gw (p := 806) (by decide +kernel)) dl_635 (Nat.le_of_ble_eq_true rfl) hc (fun v hv => by simp only [List.mem_cons, List.not_mem_nil, or_false] at hv; rcases hv with rfl | rfl | rfl <;> exact z_toir _) rM Rp hl.1 (Nat.le_of_ble_eq_true rfl) h2 ?_
  intro r σ1 H1 locs1 g1 g2 g3 g4
  refine lv_aload_n hx hb dl_638 rfl (lv_at hl 2 rfl) ?_
  refine lw_arg (j := 1) C0 hL he g4.2.2 hl (by omega) (by omega) hi0 hi1 dl_639 dl_640 dl_641 dl_642 dl_643 ?_
  refine lw_arg (j := 2) C0 hL he g4.2.2 hl (by omega) (by omega) hi0 hi1 dl_644 dl_645 dl_646 dl_647 dl_648 ?_
  refine lw_arg (j := 3) C0 hL he g4.2.2 hl (by omega) (by omega) hi0 hi1 dl_649 dl_650 dl_651 dl_652 dl_653 ?_
  refine lw_callC (y' := m_M_start) (ph := 0) (As := [z_I (xs (i + 1).toNat).toInt, z_I (xs (i + 2).toNat).toInt, z_I (xs (i + 3).toNat).toInt]) (b0 := 701) (st := [.int (Int32.ofInt r)]) C0 hKS rfl (by decide +kernel) 3 rfl (by decide +kernel) (by decide +kernel) (by decide +kernel) (z_in_gw (p := 1282) (by decide +kernel)) (z_in_gw (p := 1284) (by decide +kernel)) dl_654 (Nat.le_of_ble_eq_true rfl) hc (fun v hv => by simp only [List.mem_cons, List.not_mem_nil, or_false] at hv; rcases hv with rfl | rfl | rfl <;> exact z_toir _) g2 g4 hl.1 (Nat.le_of_ble_eq_true rfl) g1 ?_
  intro r2 σ2 H2 locs2 f1 f2 f3 f4
  obtain ⟨rfl, f1⟩ := f1
  exact lv_icmp_eq (tgt := 830) hx hb dl_657 (by decide) (fun _ => k σ2 H2 locs2 f1 f2 f4) (fun w => absurd rfl w)
theorem lw_case_step {R : Nat → z_M → Prop} {n : Nat} {i : Int} (C0 : lw_At p s m meth c b L xs) (hL : L ≤ 2048) (he : e.2.1 = s.heap) (hKS : z_KS e s) (hl : lv_has la 4 (lw_l e b i)) (hi0 : 0 ≤ i) (hi1 : i + 3 < (L : Int)) (hc : cells ≤ 600000 ∧ slots ≤ 7302250) (rM : z_rM σ) (Rp : z_Rep e true 740 σ H locs) (h2 : z_two e n R m_C_step m_M_step [z_I (xs (i + 1).toNat).toInt, z_I (xs (i + 2).toNat).toInt] σ)
    (k : ∀ σ' H1 locs1, R (n + 1) σ' → z_rM σ' → z_Rep e true 740 σ' H1 locs1 → W p e.1 env room_1 s m #[.ref b] below meth c H1 locs1 cells slots QQ (F0 m 830 la [])) : W p e.1 env room_1 s m #[.ref b] below meth c H locs cells slots QQ (F0 m 662 la []) := by
  obtain ⟨hx, hb, -⟩ := id C0
  refine lv_aload_n hx hb dl_662 rfl (lv_at hl 1 rfl) ?_
  refine lw_arg (j := 1) C0 hL he Rp.2.2 hl (by omega) (by omega) hi0 hi1 dl_663 dl_664 dl_665 dl_666 dl_667 ?_
  refine lw_arg (j := 2) C0 hL he Rp.2.2 hl (by omega) (by omega) hi0 hi1 dl_668 dl_669 dl_670 dl_671 dl_672 ?_
  refine lw_callC (y' := m_C_step) (ph := 0) (As := [z_I (xs (i + 1).toNat).toInt, z_I (xs (i + 2).toNat).toInt]) (b0 := 0) (st := []) C0 hKS rfl (by decide +kernel) 2 rfl (by decide +kernel) (by decide +kernel) (by decide +kernel) (z_in_gw (p := 808) (by decide +kernel)) (z_in_gw (p := 810) (by decide +kernel)) dl_673 (Nat.le_of_ble_eq_true rfl) hc (fun v hv => by simp only [List.mem_cons, List.not_mem_nil, or_false] at hv; rcases hv with rfl | rfl <;> exact z_toir _) rM Rp hl.1 (Nat.le_of_ble_eq_true rfl) h2 ?_
  intro r σ1 H1 locs1 g1 g2 g3 g4
  refine lv_aload_n hx hb dl_676 rfl (lv_at hl 2 rfl) ?_
  refine lw_arg (j := 1) C0 hL he g4.2.2 hl (by omega) (by omega) hi0 hi1 dl_677 dl_678 dl_679 dl_680 dl_681 ?_
  refine lw_arg (j := 2) C0 hL he g4.2.2 hl (by omega) (by omega) hi0 hi1 dl_682 dl_683 dl_684 dl_685 dl_686 ?_
  refine lw_callC (y' := m_M_step) (ph := 0) (As := [z_I (xs (i + 1).toNat).toInt, z_I (xs (i + 2).toNat).toInt]) (b0 := 701) (st := [.int (Int32.ofInt r)]) C0 hKS rfl (by decide +kernel) 2 rfl (by decide +kernel) (by decide +kernel) (by decide +kernel) (z_in_gw (p := 1293) (by decide +kernel)) (z_in_gw (p := 1295) (by decide +kernel)) dl_687 (Nat.le_of_ble_eq_true rfl) hc (fun v hv => by simp only [List.mem_cons, List.not_mem_nil, or_false] at hv; rcases hv with rfl | rfl <;> exact z_toir _) g2 g4 hl.1 (Nat.le_of_ble_eq_true rfl) g1 ?_
  intro r2 σ2 H2 locs2 f1 f2 f3 f4
  obtain ⟨rfl, f1⟩ := f1
  exact lv_icmp_eq (tgt := 830) hx hb dl_690 (by decide) (fun _ => k σ2 H2 locs2 f1 f2 f4) (fun w => absurd rfl w)
theorem lw_case_stop {R : Nat → z_M → Prop} {n : Nat} {i : Int} (C0 : lw_At p s m meth c b L xs) (hL : L ≤ 2048) (he : e.2.1 = s.heap) (hKS : z_KS e s) (hl : lv_has la 4 (lw_l e b i)) (hi0 : 0 ≤ i) (hi1 : i + 3 < (L : Int)) (hc : cells ≤ 600000 ∧ slots ≤ 7302250) (rM : z_rM σ) (Rp : z_Rep e true 740 σ H locs) (h2 : z_two e n R m_C_stop m_M_stop [z_I (xs (i + 1).toNat).toInt] σ)
    (k : ∀ σ' H1 locs1, R (n + 1) σ' → z_rM σ' → z_Rep e true 740 σ' H1 locs1 → W p e.1 env room_1 s m #[.ref b] below meth c H1 locs1 cells slots QQ (F0 m 830 la [])) : W p e.1 env room_1 s m #[.ref b] below meth c H locs cells slots QQ (F0 m 695 la []) := by
  obtain ⟨hx, hb, -⟩ := id C0
  refine lv_aload_n hx hb dl_695 rfl (lv_at hl 1 rfl) ?_
  refine lw_arg (j := 1) C0 hL he Rp.2.2 hl (by omega) (by omega) hi0 hi1 dl_696 dl_697 dl_698 dl_699 dl_700 ?_
  refine lw_callC (y' := m_C_stop) (ph := 0) (As := [z_I (xs (i + 1).toNat).toInt]) (b0 := 0) (st := []) C0 hKS rfl (by decide +kernel) 1 rfl (by decide +kernel) (by decide +kernel) (by decide +kernel) (z_in_gw (p := 817) (by decide +kernel)) (z_in_gw (p := 819) (by decide +kernel)) dl_701 (Nat.le_of_ble_eq_true rfl) hc (fun v hv => by simp only [List.mem_cons, List.not_mem_nil, or_false] at hv; rcases hv with rfl <;> exact z_toir _) rM Rp hl.1 (Nat.le_of_ble_eq_true rfl) h2 ?_
  intro r σ1 H1 locs1 g1 g2 g3 g4
  refine lv_aload_n hx hb dl_704 rfl (lv_at hl 2 rfl) ?_
  refine lw_arg (j := 1) C0 hL he g4.2.2 hl (by omega) (by omega) hi0 hi1 dl_705 dl_706 dl_707 dl_708 dl_709 ?_
  refine lw_callC (y' := m_M_stop) (ph := 0) (As := [z_I (xs (i + 1).toNat).toInt]) (b0 := 701) (st := [.int (Int32.ofInt r)]) C0 hKS rfl (by decide +kernel) 1 rfl (by decide +kernel) (by decide +kernel) (by decide +kernel) (z_in_gw (p := 1298) (by decide +kernel)) (z_in_gw (p := 1300) (by decide +kernel)) dl_710 (Nat.le_of_ble_eq_true rfl) hc (fun v hv => by simp only [List.mem_cons, List.not_mem_nil, or_false] at hv; rcases hv with rfl <;> exact z_toir _) g2 g4 hl.1 (Nat.le_of_ble_eq_true rfl) g1 ?_
  intro r2 σ2 H2 locs2 f1 f2 f3 f4
  obtain ⟨rfl, f1⟩ := f1
  exact lv_icmp_eq (tgt := 830) hx hb dl_713 (by decide) (fun _ => k σ2 H2 locs2 f1 f2 f4) (fun w => absurd rfl w)
theorem lw_case_task {R : Nat → z_M → Prop} {n : Nat} {i : Int} (C0 : lw_At p s m meth c b L xs) (hL : L ≤ 2048) (he : e.2.1 = s.heap) (hKS : z_KS e s) (hl : lv_has la 4 (lw_l e b i)) (hi0 : 0 ≤ i) (hi1 : i + 3 < (L : Int)) (hc : cells ≤ 600000 ∧ slots ≤ 7302250) (rM : z_rM σ) (Rp : z_Rep e true 740 σ H locs) (h2 : z_two e n R m_C_task m_M_task [z_I (xs (i + 1).toNat).toInt, z_I (xs (i + 2).toNat).toInt] σ)
    (k : ∀ σ' H1 locs1, R (n + 1) σ' → z_rM σ' → z_Rep e true 740 σ' H1 locs1 → W p e.1 env room_1 s m #[.ref b] below meth c H1 locs1 cells slots QQ (F0 m 830 la [])) : W p e.1 env room_1 s m #[.ref b] below meth c H locs cells slots QQ (F0 m 718 la []) := by
  obtain ⟨hx, hb, -⟩ := id C0
  refine lv_aload_n hx hb dl_718 rfl (lv_at hl 1 rfl) ?_
  refine lw_arg (j := 1) C0 hL he Rp.2.2 hl (by omega) (by omega) hi0 hi1 dl_719 dl_720 dl_721 dl_722 dl_723 ?_
  refine lw_arg (j := 2) C0 hL he Rp.2.2 hl (by omega) (by omega) hi0 hi1 dl_724 dl_725 dl_726 dl_727 dl_728 ?_
  refine lw_callC (y' := m_C_task) (ph := 0) (As := [z_I (xs (i + 1).toNat).toInt, z_I (xs (i + 2).toNat).toInt]) (b0 := 0) (st := []) C0 hKS rfl (by decide +kernel) 2 rfl (by decide +kernel) (by decide +kernel) (by decide +kernel) (z_in_gw (p := 821) (by decide +kernel)) (z_in_gw (p := 823) (by decide +kernel)) dl_729 (Nat.le_of_ble_eq_true rfl) hc (fun v hv => by simp only [List.mem_cons, List.not_mem_nil, or_false] at hv; rcases hv with rfl | rfl <;> exact z_toir _) rM Rp hl.1 (Nat.le_of_ble_eq_true rfl) h2 ?_
  intro r σ1 H1 locs1 g1 g2 g3 g4
  refine lv_aload_n hx hb dl_732 rfl (lv_at hl 2 rfl) ?_
  refine lw_arg (j := 1) C0 hL he g4.2.2 hl (by omega) (by omega) hi0 hi1 dl_733 dl_734 dl_735 dl_736 dl_737 ?_
  refine lw_arg (j := 2) C0 hL he g4.2.2 hl (by omega) (by omega) hi0 hi1 dl_738 dl_739 dl_740 dl_741 dl_742 ?_
  refine lw_callC (y' := m_M_task) (ph := 0) (As := [z_I (xs (i + 1).toNat).toInt, z_I (xs (i + 2).toNat).toInt]) (b0 := 701) (st := [.int (Int32.ofInt r)]) C0 hKS rfl (by decide +kernel) 2 rfl (by decide +kernel) (by decide +kernel) (by decide +kernel) (z_in_gw (p := 1302) (by decide +kernel)) (z_in_gw (p := 1304) (by decide +kernel)) dl_743 (Nat.le_of_ble_eq_true rfl) hc (fun v hv => by simp only [List.mem_cons, List.not_mem_nil, or_false] at hv; rcases hv with rfl | rfl <;> exact z_toir _) g2 g4 hl.1 (Nat.le_of_ble_eq_true rfl) g1 ?_
  intro r2 σ2 H2 locs2 f1 f2 f3 f4
  obtain ⟨rfl, f1⟩ := f1
  exact lv_icmp_eq (tgt := 830) hx hb dl_746 (by decide) (fun _ => k σ2 H2 locs2 f1 f2 f4) (fun w => absurd rfl w)
theorem lw_case_frame {R : Nat → z_M → Prop} {n : Nat} {i : Int} (C0 : lw_At p s m meth c b L xs) (hL : L ≤ 2048) (he : e.2.1 = s.heap) (hKS : z_KS e s) (hl : lv_has la 4 (lw_l e b i)) (hi0 : 0 ≤ i) (hi1 : i + 3 < (L : Int)) (hc : cells ≤ 600000 ∧ slots ≤ 7302250) (rM : z_rM σ) (Rp : z_Rep e true 740 σ H locs) (h2 : z_two e n R m_C_frame m_M_frame [z_I (xs (i + 1).toNat).toInt, z_I (xs (i + 2).toNat).toInt] σ)
    (k : ∀ σ' H1 locs1, R (n + 1) σ' → z_rM σ' → z_Rep e true 740 σ' H1 locs1 → W p e.1 env room_1 s m #[.ref b] below meth c H1 locs1 cells slots QQ (F0 m 830 la [])) : W p e.1 env room_1 s m #[.ref b] below meth c H locs cells slots QQ (F0 m 751 la []) := by
  obtain ⟨hx, hb, -⟩ := id C0
  refine lv_aload_n hx hb dl_751 rfl (lv_at hl 1 rfl) ?_
  refine lw_arg (j := 1) C0 hL he Rp.2.2 hl (by omega) (by omega) hi0 hi1 dl_752 dl_753 dl_754 dl_755 dl_756 ?_
  refine lw_arg (j := 2) C0 hL he Rp.2.2 hl (by omega) (by omega) hi0 hi1 dl_757 dl_758 dl_759 dl_760 dl_761 ?_
  refine lw_callC (y' := m_C_frame) (ph := 0) (As := [z_I (xs (i + 1).toNat).toInt, z_I (xs (i + 2).toNat).toInt]) (b0 := 0) (st := []) C0 hKS rfl (by decide +kernel) 2 rfl (by decide +kernel) (by decide +kernel) (by decide +kernel) (z_in_gw (p := 825) (by decide +kernel)) (z_in_gw (p := 827) (by decide +kernel)) dl_762 (Nat.le_of_ble_eq_true rfl) hc (fun v hv => by simp only [List.mem_cons, List.not_mem_nil, or_false] at hv; rcases hv with rfl | rfl <;> exact z_toir _) rM Rp hl.1 (Nat.le_of_ble_eq_true rfl) h2 ?_
  intro r σ1 H1 locs1 g1 g2 g3 g4
  refine lv_aload_n hx hb dl_765 rfl (lv_at hl 2 rfl) ?_
  refine lw_arg (j := 1) C0 hL he g4.2.2 hl (by omega) (by omega) hi0 hi1 dl_766 dl_767 dl_768 dl_769 dl_770 ?_
  refine lw_arg (j := 2) C0 hL he g4.2.2 hl (by omega) (by omega) hi0 hi1 dl_771 dl_772 dl_773 dl_774 dl_775 ?_
  refine lw_callC (y' := m_M_frame) (ph := 0) (As := [z_I (xs (i + 1).toNat).toInt, z_I (xs (i + 2).toNat).toInt]) (b0 := 701) (st := [.int (Int32.ofInt r)]) C0 hKS rfl (by decide +kernel) 2 rfl (by decide +kernel) (by decide +kernel) (by decide +kernel) (z_in_gw (p := 1307) (by decide +kernel)) (z_in_gw (p := 1309) (by decide +kernel)) dl_776 (Nat.le_of_ble_eq_true rfl) hc (fun v hv => by simp only [List.mem_cons, List.not_mem_nil, or_false] at hv; rcases hv with rfl | rfl <;> exact z_toir _) g2 g4 hl.1 (Nat.le_of_ble_eq_true rfl) g1 ?_
  intro r2 σ2 H2 locs2 f1 f2 f3 f4
  obtain ⟨rfl, f1⟩ := f1
  exact lv_icmp_eq (tgt := 830) hx hb dl_779 (by decide) (fun _ => k σ2 H2 locs2 f1 f2 f4) (fun w => absurd rfl w)
theorem lw_case_led {R : Nat → z_M → Prop} {n : Nat} {i : Int} (C0 : lw_At p s m meth c b L xs) (hL : L ≤ 2048) (he : e.2.1 = s.heap) (hKS : z_KS e s) (hl : lv_has la 4 (lw_l e b i)) (hi0 : 0 ≤ i) (hi1 : i + 3 < (L : Int)) (hc : cells ≤ 600000 ∧ slots ≤ 7302250) (rM : z_rM σ) (Rp : z_Rep e true 740 σ H locs) (h2 : z_two e n R m_C_led m_M_led [z_I (xs (i + 1).toNat).toInt] σ)
    (k : ∀ σ' H1 locs1, R (n + 1) σ' → z_rM σ' → z_Rep e true 740 σ' H1 locs1 → W p e.1 env room_1 s m #[.ref b] below meth c H1 locs1 cells slots QQ (F0 m 830 la [])) : W p e.1 env room_1 s m #[.ref b] below meth c H locs cells slots QQ (F0 m 784 la []) := by
  obtain ⟨hx, hb, -⟩ := id C0
  refine lv_aload_n hx hb dl_784 rfl (lv_at hl 1 rfl) ?_
  refine lw_arg (j := 1) C0 hL he Rp.2.2 hl (by omega) (by omega) hi0 hi1 dl_785 dl_786 dl_787 dl_788 dl_789 ?_
  refine lw_callC (y' := m_C_led) (ph := 0) (As := [z_I (xs (i + 1).toNat).toInt]) (b0 := 0) (st := []) C0 hKS rfl (by decide +kernel) 1 rfl (by decide +kernel) (by decide +kernel) (by decide +kernel) (z_in_gw (p := 829) (by decide +kernel)) (z_in_gw (p := 831) (by decide +kernel)) dl_790 (Nat.le_of_ble_eq_true rfl) hc (fun v hv => by simp only [List.mem_cons, List.not_mem_nil, or_false] at hv; rcases hv with rfl <;> exact z_toir _) rM Rp hl.1 (Nat.le_of_ble_eq_true rfl) h2 ?_
  intro r σ1 H1 locs1 g1 g2 g3 g4
  refine lv_aload_n hx hb dl_793 rfl (lv_at hl 2 rfl) ?_
  refine lw_arg (j := 1) C0 hL he g4.2.2 hl (by omega) (by omega) hi0 hi1 dl_794 dl_795 dl_796 dl_797 dl_798 ?_
  refine lw_callC (y' := m_M_led) (ph := 0) (As := [z_I (xs (i + 1).toNat).toInt]) (b0 := 701) (st := [.int (Int32.ofInt r)]) C0 hKS rfl (by decide +kernel) 1 rfl (by decide +kernel) (by decide +kernel) (by decide +kernel) (z_in_gw (p := 1311) (by decide +kernel)) (z_in_gw (p := 1313) (by decide +kernel)) dl_799 (Nat.le_of_ble_eq_true rfl) hc (fun v hv => by simp only [List.mem_cons, List.not_mem_nil, or_false] at hv; rcases hv with rfl <;> exact z_toir _) g2 g4 hl.1 (Nat.le_of_ble_eq_true rfl) g1 ?_
  intro r2 σ2 H2 locs2 f1 f2 f3 f4
  obtain ⟨rfl, f1⟩ := f1
  exact lv_icmp_eq (tgt := 830) hx hb dl_802 (by decide) (fun _ => k σ2 H2 locs2 f1 f2 f4) (fun w => absurd rfl w)
theorem lw_case_count {R : Nat → z_M → Prop} {n : Nat} {i : Int} (C0 : lw_At p s m meth c b L xs) (hL : L ≤ 2048) (he : e.2.1 = s.heap) (hKS : z_KS e s) (hl : lv_has la 4 (lw_l e b i)) (hi0 : 0 ≤ i) (hi1 : i + 3 < (L : Int)) (hc : cells ≤ 600000 ∧ slots ≤ 7302250) (rM : z_rM σ) (Rp : z_Rep e true 740 σ H locs) (h2 : z_two e n R m_C_count m_M_count [z_I (xs (i + 1).toNat).toInt] σ)
    (k : ∀ σ' H1 locs1, R (n + 1) σ' → z_rM σ' → z_Rep e true 740 σ' H1 locs1 → W p e.1 env room_1 s m #[.ref b] below meth c H1 locs1 cells slots QQ (F0 m 830 la [])) : W p e.1 env room_1 s m #[.ref b] below meth c H locs cells slots QQ (F0 m 807 la []) := by
  obtain ⟨hx, hb, -⟩ := id C0
  refine lv_aload_n hx hb dl_807 rfl (lv_at hl 1 rfl) ?_
  refine lw_arg (j := 1) C0 hL he Rp.2.2 hl (by omega) (by omega) hi0 hi1 dl_808 dl_809 dl_810 dl_811 dl_812 ?_
  refine lw_callC (y' := m_C_count) (ph := 0) (As := [z_I (xs (i + 1).toNat).toInt]) (b0 := 0) (st := []) C0 hKS rfl (by decide +kernel) 1 rfl (by decide +kernel) (by decide +kernel) (by decide +kernel) (z_in_gw (p := 833) (by decide +kernel)) (z_in_gw (p := 835) (by decide +kernel)) dl_813 (Nat.le_of_ble_eq_true rfl) hc (fun v hv => by simp only [List.mem_cons, List.not_mem_nil, or_false] at hv; rcases hv with rfl <;> exact z_toir _) rM Rp hl.1 (Nat.le_of_ble_eq_true rfl) h2 ?_
  intro r σ1 H1 locs1 g1 g2 g3 g4
  refine lv_aload_n hx hb dl_816 rfl (lv_at hl 2 rfl) ?_
  refine lw_arg (j := 1) C0 hL he g4.2.2 hl (by omega) (by omega) hi0 hi1 dl_817 dl_818 dl_819 dl_820 dl_821 ?_
  refine lw_callC (y' := m_M_count) (ph := 0) (As := [z_I (xs (i + 1).toNat).toInt]) (b0 := 701) (st := [.int (Int32.ofInt r)]) C0 hKS rfl (by decide +kernel) 1 rfl (by decide +kernel) (by decide +kernel) (by decide +kernel) (z_in_gw (p := 1315) (by decide +kernel)) (z_in_gw (p := 1317) (by decide +kernel)) dl_822 (Nat.le_of_ble_eq_true rfl) hc (fun v hv => by simp only [List.mem_cons, List.not_mem_nil, or_false] at hv; rcases hv with rfl <;> exact z_toir _) g2 g4 hl.1 (Nat.le_of_ble_eq_true rfl) g1 ?_
  intro r2 σ2 H2 locs2 f1 f2 f3 f4
  obtain ⟨rfl, f1⟩ := f1
  exact lv_icmp_eq (tgt := 830) hx hb dl_825 (by decide) (fun _ => k σ2 H2 locs2 f1 f2 f4) (fun w => absurd rfl w)
end LWW
