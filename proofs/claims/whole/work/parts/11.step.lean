section ZT
variable {e : z_E} {ph : Bool} {d y Ni No : Nat} {Q : Int → z_M → Prop} {full : List z_In}
theorem z_X_rg {pc : Nat} {ls : List (Option z_V)} {st : List z_V} {N : Nat} {σ : z_M} (h : z_rS st → z_X e ph d y Ni No pc ls st N σ Q) : z_X e ph d y Ni No pc ls st N σ Q := fun r1 r2 r3 => h r2 r1 r2 r3
theorem z_irB_sp {n : Int} (h : z_irB n = true) : z_ir n := by
  unfold z_irB at h
  exact of_decide_eq_true (p := -2147483648 ≤ n ∧ n < 2147483648) h
theorem z_isO_sp {rt : Option FieldType} (h : z_isO rt = true) : ∃ n, rt = some (.object n) := by
  unfold z_isO at h
  split at h
  · exact ⟨_, rfl⟩
  · cases h
theorem z_Y_mono {y' N N' : Nat} {args : List z_V} {σ : z_M} {Q1 Q2 : Int → z_M → Prop} (hq : ∀ r σ', Q1 r σ' → Q2 r σ') (h : z_Y e ph d y' args N N' σ Q1) : z_Y e ph d y' args N N' σ Q2 := by
  intro r1 r2
  obtain ⟨d', h1, h2, h3⟩ := h r1 r2
  refine ⟨d', h1, h2, ?_⟩
  have key : ∀ a s o t, z_Qc e ph (z_hd y').2.2.2.1 N' Q1 a s o t → z_Qc e ph (z_hd y').2.2.2.1 N' Q2 a s o t := fun a s o t ⟨r, σ', w, rest⟩ => ⟨r, σ', hq _ _ w, rest⟩
  intro p env ha hc hk s m args below hf hfit hP hX
  obtain ⟨t, o, g1, g2, g3, g4⟩ := h3 p env ha hc hk s m args below hf hfit hP hX
  exact ⟨t, o, g1, g2, g3, key _ _ _ _ g4.1, g4.2⟩
theorem z_call_sp {y' n : Nat} {c : z_K} {r : List z_In} {ls : List (Option z_V)} {st as st' : List z_V} {N : Nat} {σ : z_M} (hp : z_pop n [] st = some (as, st')) (h : z_call e ph d No y' (z_rc (z_hd y').2.2.2.1) (z_hd y').2.2.2.2.2.2.1 c r ls as st' N σ) :
    st = as.reverse ++ st' ∧ as.length = n ∧ z_cat st' ≤ 8 ∧ N + (z_hd y').2.2.2.2.2.2.1 ≤ No ∧ z_Y e ph d y' as N (N + (z_hd y').2.2.2.2.2.2.1) σ (fun v σ' => c r ls (z_rs (z_hd y').2.2.2.1 v st') (N + (z_hd y').2.2.2.2.2.2.1) σ') := by
  unfold z_call at h
  obtain ⟨c1, c2⟩ := z_ck_sp h
  simp only [Bool.and_eq_true, Nat.ble_eq] at c1
  obtain ⟨l, h1, h2, h3⟩ := z_pop_sp _ _ _ _ _ hp
  refine ⟨?_, ?_, c1.1, c1.2, ?_⟩
  · rw [h1]; simpa using h2
  · rw [h1]; simpa using h3
  · simp only [z_r2_rs] at c2
    exact c2
set_option maxHeartbeats 4000000 in
theorem z_step_ok {c : z_K} {i : z_In} {r : List z_In} {ls : List (Option z_V)} {st : List z_V} {N : Nat} {σ : z_M} (hok : z_okI y full i = true) (hr : r = full.drop (i.1 + 1)) (hc : z_Xr e ph d y Ni No Q full c) (h : z_step e ph d No Q full c i r ls st N σ) : z_X e ph d y Ni No i.2.1 ls st N σ Q := by
  obtain ⟨ix, pc, cut, msk, ins, len, args, pl⟩ := i
  simp only [z_okI, Bool.and_eq_true, decide_eq_true_eq] at hok
  obtain ⟨hd, ok⟩ := hok
  have nx : ∀ k : Nat, z_nx full ix pc len k = true → len = k ∧ ∀ ls' st' N' σ', c r ls' st' N' σ' → z_X e ph d y Ni No (pc + k) ls' st' N' σ' Q := by
    intro k hk
    simp only [z_nx, Bool.and_eq_true, beq_iff_eq] at hk
    obtain ⟨q, h1, h2⟩ := z_at_sp hk.2
    refine ⟨hk.1, fun ls' st' N' σ' w => ?_⟩
    rw [show pc + k = q by omega]
    exact hc (ix + 1) r ls' st' N' σ' hr w q h1
  have jp : ∀ (t : Nat) (p : Int), z_at full t p = true → ∃ q : Nat, p = (q : Int) ∧ ∀ ls' st' N' σ', c (full.drop t) ls' st' N' σ' → z_X e ph d y Ni No q ls' st' N' σ' Q := by
    intro t p hk
    obtain ⟨q, h1, h2⟩ := z_at_sp hk
    exact ⟨q, h2, fun ls' st' N' σ' w => hc t _ ls' st' N' σ' rfl w q h1⟩
  clear hc hr
  unfold z_step at h
  simp only at h hd ok ⊢
  split at h
  · simp only [z_okS, Bool.and_eq_true, decide_eq_true_eq, beq_iff_eq, Bool.not_eq_true'] at ok
    obtain ⟨o1, o2⟩ := ok
    obtain ⟨rfl, hn⟩ := nx _ o1
    exact z_s_iconst (z_irB_sp o2) hd (hn _ _ _ _ h)
  · simp only [z_okS, Bool.and_eq_true, decide_eq_true_eq, beq_iff_eq, Bool.not_eq_true'] at ok
    obtain ⟨⟨o1, o2⟩, o3⟩ := ok
    obtain ⟨rfl, hn⟩ := nx _ o1
    exact z_s_bipush o3 (z_irB_sp o2) hd (hn _ _ _ _ h)
  · simp only [z_okS, Bool.and_eq_true, decide_eq_true_eq, beq_iff_eq, Bool.not_eq_true'] at ok
    obtain ⟨⟨o1, o2⟩, o3⟩ := ok
    obtain ⟨rfl, hn⟩ := nx _ o1
    exact z_s_sipush o3 (z_irB_sp o2) hd (hn _ _ _ _ h)
  · simp only [z_okS, Bool.and_eq_true, decide_eq_true_eq, beq_iff_eq, Bool.not_eq_true'] at ok
    obtain ⟨⟨o1, o2⟩, o3⟩ := ok
    obtain ⟨rfl, hn⟩ := nx _ o1
    exact z_s_ldc (z_in_gw o3) (z_irB_sp o2) hd (hn _ _ _ _ h)
  · simp only [z_okS, Bool.and_eq_true, decide_eq_true_eq, beq_iff_eq, Bool.not_eq_true'] at ok
    obtain ⟨⟨o1, o2⟩, o3⟩ := ok
    obtain ⟨rfl, hn⟩ := nx _ o1
    have o2 := of_decide_eq_true o2
    exact z_s_ldc2 (z_in_gw o3) (by unfold z_lr; omega) hd (hn _ _ _ _ h)
  · simp only [z_okS, Bool.and_eq_true, decide_eq_true_eq, beq_iff_eq, Bool.not_eq_true'] at ok
    obtain ⟨o1, o2⟩ := ok
    obtain ⟨rfl, hn⟩ := nx _ o1
    subst o2
    exact z_s_lconst rfl (by unfold z_lr; omega) hd (hn _ _ _ _ h)
  · simp only [z_okS, Bool.and_eq_true, decide_eq_true_eq, beq_iff_eq, Bool.not_eq_true'] at ok
    obtain ⟨rfl, hn⟩ := nx _ ok
    exact z_s_null hd (hn _ _ _ _ h)
  · simp only [z_okS, Bool.and_eq_true, decide_eq_true_eq, beq_iff_eq, Bool.not_eq_true'] at ok
    split at h
    · next hx =>
      obtain ⟨rfl, hn⟩ := nx _ ok
      exact z_s_iload_n hx hd (hn _ _ _ _ h)
    · exact absurd h id
  · simp only [z_okS, Bool.and_eq_true, decide_eq_true_eq, beq_iff_eq, Bool.not_eq_true'] at ok
    split at h
    · next hx =>
      obtain ⟨rfl, hn⟩ := nx _ ok
      exact z_s_iload hx hd (hn _ _ _ _ h)
    · exact absurd h id
  · simp only [z_okS, Bool.and_eq_true, decide_eq_true_eq, beq_iff_eq, Bool.not_eq_true'] at ok
    split at h
    · next hx =>
      obtain ⟨rfl, hn⟩ := nx _ ok
      exact z_s_lload_n hx hd (hn _ _ _ _ h)
    · exact absurd h id
  · simp only [z_okS, Bool.and_eq_true, decide_eq_true_eq, beq_iff_eq, Bool.not_eq_true'] at ok
    split at h
    · next hx =>
      obtain ⟨rfl, hn⟩ := nx _ ok
      exact z_s_lload hx hd (hn _ _ _ _ h)
    · exact absurd h id
  · simp only [z_okS, Bool.and_eq_true, decide_eq_true_eq, beq_iff_eq, Bool.not_eq_true'] at ok
    split at h
    · next hx =>
      obtain ⟨rfl, hn⟩ := nx _ ok
      exact z_s_aload_n hx hd (hn _ _ _ _ h)
    · exact absurd h id
  · simp only [z_okS, Bool.and_eq_true, decide_eq_true_eq, beq_iff_eq, Bool.not_eq_true'] at ok
    split at h
    · next hx =>
      obtain ⟨rfl, hn⟩ := nx _ ok
      exact z_s_aload hx hd (hn _ _ _ _ h)
    · exact absurd h id
  · simp only [z_okS, Bool.and_eq_true, decide_eq_true_eq, beq_iff_eq, Bool.not_eq_true'] at ok
    obtain ⟨o1, o2⟩ := ok
    obtain ⟨rfl, hn⟩ := nx _ o1
    exact z_s_istore_n o2 hd (hn _ _ _ _ h)
  · simp only [z_okS, Bool.and_eq_true, decide_eq_true_eq, beq_iff_eq, Bool.not_eq_true'] at ok
    obtain ⟨o1, o2⟩ := ok
    obtain ⟨rfl, hn⟩ := nx _ o1
    exact z_s_istore o2 hd (hn _ _ _ _ h)
  · simp only [z_okS, Bool.and_eq_true, decide_eq_true_eq, beq_iff_eq, Bool.not_eq_true'] at ok
    obtain ⟨o1, o2⟩ := ok
    obtain ⟨rfl, hn⟩ := nx _ o1
    exact z_s_lstore o2 hd (hn _ _ _ _ h)
  · simp only [z_okS, Bool.and_eq_true, decide_eq_true_eq, beq_iff_eq, Bool.not_eq_true'] at ok
    obtain ⟨o1, o2⟩ := ok
    obtain ⟨rfl, hn⟩ := nx _ o1
    exact z_s_astore_n o2 hd (hn _ _ _ _ h)
  · simp only [z_okS, Bool.and_eq_true, decide_eq_true_eq, beq_iff_eq, Bool.not_eq_true'] at ok
    obtain ⟨o1, o2⟩ := ok
    obtain ⟨rfl, hn⟩ := nx _ o1
    exact z_s_astore o2 hd (hn _ _ _ _ h)
  · simp only [z_okS, Bool.and_eq_true, decide_eq_true_eq, beq_iff_eq, Bool.not_eq_true'] at ok
    split at h
    · next hx =>
      obtain ⟨o1, o2⟩ := ok
      obtain ⟨rfl, hn⟩ := nx _ o1
      exact z_s_iinc o2 hx hd (hn _ _ _ _ h)
    · exact absurd h id
  · simp only [z_okS, Bool.and_eq_true, decide_eq_true_eq, beq_iff_eq, Bool.not_eq_true'] at ok
    obtain ⟨rfl, hn⟩ := nx _ ok
    exact z_s_iadd hd (hn _ _ _ _ h)
  · simp only [z_okS, Bool.and_eq_true, decide_eq_true_eq, beq_iff_eq, Bool.not_eq_true'] at ok
    obtain ⟨rfl, hn⟩ := nx _ ok
    exact z_s_isub hd (hn _ _ _ _ h)
  · simp only [z_okS, Bool.and_eq_true, decide_eq_true_eq, beq_iff_eq, Bool.not_eq_true'] at ok
    obtain ⟨rfl, hn⟩ := nx _ ok
    exact z_s_imul hd (hn _ _ _ _ h)
  · simp only [z_okS, Bool.and_eq_true, decide_eq_true_eq, beq_iff_eq, Bool.not_eq_true'] at ok
    obtain ⟨rfl, hn⟩ := nx _ ok
    exact z_s_idiv h.1 hd (hn _ _ _ _ h.2)
  · simp only [z_okS, Bool.and_eq_true, decide_eq_true_eq, beq_iff_eq, Bool.not_eq_true'] at ok
    obtain ⟨rfl, hn⟩ := nx _ ok
    exact z_s_irem h.1 hd (hn _ _ _ _ h.2)
  · simp only [z_okS, Bool.and_eq_true, decide_eq_true_eq, beq_iff_eq, Bool.not_eq_true'] at ok
    obtain ⟨rfl, hn⟩ := nx _ ok
    exact z_s_iand hd (hn _ _ _ _ h)
  · simp only [z_okS, Bool.and_eq_true, decide_eq_true_eq, beq_iff_eq, Bool.not_eq_true'] at ok
    obtain ⟨rfl, hn⟩ := nx _ ok
    exact z_s_ior hd (hn _ _ _ _ h)
  · simp only [z_okS, Bool.and_eq_true, decide_eq_true_eq, beq_iff_eq, Bool.not_eq_true'] at ok
    obtain ⟨rfl, hn⟩ := nx _ ok
    exact z_s_ishl hd (hn _ _ _ _ h)
  · simp only [z_okS, Bool.and_eq_true, decide_eq_true_eq, beq_iff_eq, Bool.not_eq_true'] at ok
    obtain ⟨rfl, hn⟩ := nx _ ok
    exact z_s_ishr hd (hn _ _ _ _ h)
  · simp only [z_okS, Bool.and_eq_true, decide_eq_true_eq, beq_iff_eq, Bool.not_eq_true'] at ok
    obtain ⟨rfl, hn⟩ := nx _ ok
    exact z_s_ineg hd (hn _ _ _ _ h)
  · simp only [z_okS, Bool.and_eq_true, decide_eq_true_eq, beq_iff_eq, Bool.not_eq_true'] at ok
    obtain ⟨rfl, hn⟩ := nx _ ok
    exact z_s_ladd hd (hn _ _ _ _ h)
  · simp only [z_okS, Bool.and_eq_true, decide_eq_true_eq, beq_iff_eq, Bool.not_eq_true'] at ok
    obtain ⟨rfl, hn⟩ := nx _ ok
    exact z_s_lsub hd (hn _ _ _ _ h)
  · simp only [z_okS, Bool.and_eq_true, decide_eq_true_eq, beq_iff_eq, Bool.not_eq_true'] at ok
    obtain ⟨rfl, hn⟩ := nx _ ok
    exact z_s_lmul hd (hn _ _ _ _ h)
  · simp only [z_okS, Bool.and_eq_true, decide_eq_true_eq, beq_iff_eq, Bool.not_eq_true'] at ok
    obtain ⟨rfl, hn⟩ := nx _ ok
    exact z_s_ldiv h.1 hd (hn _ _ _ _ h.2)
  · simp only [z_okS, Bool.and_eq_true, decide_eq_true_eq, beq_iff_eq, Bool.not_eq_true'] at ok
    obtain ⟨rfl, hn⟩ := nx _ ok
    exact z_s_lcmp hd (hn _ _ _ _ h)
  · simp only [z_okS, Bool.and_eq_true, decide_eq_true_eq, beq_iff_eq, Bool.not_eq_true'] at ok
    obtain ⟨rfl, hn⟩ := nx _ ok
    exact z_s_i2l hd (hn _ _ _ _ h)
  · simp only [z_okS, Bool.and_eq_true, decide_eq_true_eq, beq_iff_eq, Bool.not_eq_true'] at ok
    obtain ⟨rfl, hn⟩ := nx _ ok
    exact z_s_l2i hd (hn _ _ _ _ h)
  · simp only [z_okS, Bool.and_eq_true, decide_eq_true_eq, beq_iff_eq, Bool.not_eq_true'] at ok
    obtain ⟨rfl, hn⟩ := nx _ ok
    exact z_s_dup (by intro x hh; cases hh) hd (hn _ _ _ _ h)
  · simp only [z_okS, Bool.and_eq_true, decide_eq_true_eq, beq_iff_eq, Bool.not_eq_true'] at ok
    obtain ⟨rfl, hn⟩ := nx _ ok
    exact z_s_dup (by intro x hh; cases hh) hd (hn _ _ _ _ h)
  · simp only [z_okS, Bool.and_eq_true, decide_eq_true_eq, beq_iff_eq, Bool.not_eq_true'] at ok
    obtain ⟨rfl, hn⟩ := nx _ ok
    exact z_s_dup2 (by intro x hh; cases hh) (by intro x hh; cases hh) hd (hn _ _ _ _ h)
  · simp only [z_okS, Bool.and_eq_true, decide_eq_true_eq, beq_iff_eq, Bool.not_eq_true'] at ok
    obtain ⟨rfl, hn⟩ := nx _ ok
    exact z_s_dup2 (by intro x hh; cases hh) (by intro x hh; cases hh) hd (hn _ _ _ _ h)
  · simp only [z_okS, Bool.and_eq_true, decide_eq_true_eq, beq_iff_eq, Bool.not_eq_true'] at ok
    obtain ⟨rfl, hn⟩ := nx _ ok
    exact z_s_pop (by intro x hh; cases hh) hd (hn _ _ _ _ h)
  · simp only [z_okS, Bool.and_eq_true, decide_eq_true_eq, beq_iff_eq, Bool.not_eq_true'] at ok
    obtain ⟨rfl, hn⟩ := nx _ ok
    exact z_s_pop (by intro x hh; cases hh) hd (hn _ _ _ _ h)
  · simp only [z_okS, Bool.and_eq_true, decide_eq_true_eq, beq_iff_eq, Bool.not_eq_true'] at ok
    obtain ⟨rfl, o2⟩ := ok
    obtain ⟨q, e1, hj⟩ := jp _ _ o2
    exact z_s_goto e1 hd (hj _ _ _ _ h)
  · simp only [z_okS, Bool.and_eq_true, decide_eq_true_eq, beq_iff_eq, Bool.not_eq_true'] at ok
    obtain ⟨o1, o2⟩ := ok
    obtain ⟨rfl, hn⟩ := nx _ o1
    obtain ⟨q, e1, hj⟩ := jp _ _ o2
    exact z_s_if_eq e1 hd (fun w => hj _ _ _ _ (h.1 w)) (fun w => hn _ _ _ _ (h.2 w))
  · simp only [z_okS, Bool.and_eq_true, decide_eq_true_eq, beq_iff_eq, Bool.not_eq_true'] at ok
    obtain ⟨o1, o2⟩ := ok
    obtain ⟨rfl, hn⟩ := nx _ o1
    obtain ⟨q, e1, hj⟩ := jp _ _ o2
    exact z_s_if_ne e1 hd (fun w => hj _ _ _ _ (h.1 w)) (fun w => hn _ _ _ _ (h.2 w))
  · simp only [z_okS, Bool.and_eq_true, decide_eq_true_eq, beq_iff_eq, Bool.not_eq_true'] at ok
    obtain ⟨o1, o2⟩ := ok
    obtain ⟨rfl, hn⟩ := nx _ o1
    obtain ⟨q, e1, hj⟩ := jp _ _ o2
    exact z_s_if_lt e1 hd (fun w => hj _ _ _ _ (h.1 w)) (fun w => hn _ _ _ _ (h.2 w))
  · simp only [z_okS, Bool.and_eq_true, decide_eq_true_eq, beq_iff_eq, Bool.not_eq_true'] at ok
    obtain ⟨o1, o2⟩ := ok
    obtain ⟨rfl, hn⟩ := nx _ o1
    obtain ⟨q, e1, hj⟩ := jp _ _ o2
    exact z_s_if_ge e1 hd (fun w => hj _ _ _ _ (h.1 w)) (fun w => hn _ _ _ _ (h.2 w))
  · simp only [z_okS, Bool.and_eq_true, decide_eq_true_eq, beq_iff_eq, Bool.not_eq_true'] at ok
    obtain ⟨o1, o2⟩ := ok
    obtain ⟨rfl, hn⟩ := nx _ o1
    obtain ⟨q, e1, hj⟩ := jp _ _ o2
    exact z_s_if_gt e1 hd (fun w => hj _ _ _ _ (h.1 w)) (fun w => hn _ _ _ _ (h.2 w))
  · simp only [z_okS, Bool.and_eq_true, decide_eq_true_eq, beq_iff_eq, Bool.not_eq_true'] at ok
    obtain ⟨o1, o2⟩ := ok
    obtain ⟨rfl, hn⟩ := nx _ o1
    obtain ⟨q, e1, hj⟩ := jp _ _ o2
    exact z_s_if_le e1 hd (fun w => hj _ _ _ _ (h.1 w)) (fun w => hn _ _ _ _ (h.2 w))
  · simp only [z_okS, Bool.and_eq_true, decide_eq_true_eq, beq_iff_eq, Bool.not_eq_true'] at ok
    obtain ⟨o1, o2⟩ := ok
    obtain ⟨rfl, hn⟩ := nx _ o1
    obtain ⟨q, e1, hj⟩ := jp _ _ o2
    exact z_s_icmp_eq e1 hd (fun w => hj _ _ _ _ (h.1 w)) (fun w => hn _ _ _ _ (h.2 w))
  · simp only [z_okS, Bool.and_eq_true, decide_eq_true_eq, beq_iff_eq, Bool.not_eq_true'] at ok
    obtain ⟨o1, o2⟩ := ok
    obtain ⟨rfl, hn⟩ := nx _ o1
    obtain ⟨q, e1, hj⟩ := jp _ _ o2
    exact z_s_icmp_ne e1 hd (fun w => hj _ _ _ _ (h.1 w)) (fun w => hn _ _ _ _ (h.2 w))
  · simp only [z_okS, Bool.and_eq_true, decide_eq_true_eq, beq_iff_eq, Bool.not_eq_true'] at ok
    obtain ⟨o1, o2⟩ := ok
    obtain ⟨rfl, hn⟩ := nx _ o1
    obtain ⟨q, e1, hj⟩ := jp _ _ o2
    exact z_s_icmp_lt e1 hd (fun w => hj _ _ _ _ (h.1 w)) (fun w => hn _ _ _ _ (h.2 w))
  · simp only [z_okS, Bool.and_eq_true, decide_eq_true_eq, beq_iff_eq, Bool.not_eq_true'] at ok
    obtain ⟨o1, o2⟩ := ok
    obtain ⟨rfl, hn⟩ := nx _ o1
    obtain ⟨q, e1, hj⟩ := jp _ _ o2
    exact z_s_icmp_ge e1 hd (fun w => hj _ _ _ _ (h.1 w)) (fun w => hn _ _ _ _ (h.2 w))
  · simp only [z_okS, Bool.and_eq_true, decide_eq_true_eq, beq_iff_eq, Bool.not_eq_true'] at ok
    obtain ⟨o1, o2⟩ := ok
    obtain ⟨rfl, hn⟩ := nx _ o1
    obtain ⟨q, e1, hj⟩ := jp _ _ o2
    exact z_s_icmp_gt e1 hd (fun w => hj _ _ _ _ (h.1 w)) (fun w => hn _ _ _ _ (h.2 w))
  · simp only [z_okS, Bool.and_eq_true, decide_eq_true_eq, beq_iff_eq, Bool.not_eq_true'] at ok
    obtain ⟨o1, o2⟩ := ok
    obtain ⟨rfl, hn⟩ := nx _ o1
    obtain ⟨q, e1, hj⟩ := jp _ _ o2
    exact z_s_icmp_le e1 hd (fun w => hj _ _ _ _ (h.1 w)) (fun w => hn _ _ _ _ (h.2 w))
  · simp only [z_okS, Bool.and_eq_true, decide_eq_true_eq, beq_iff_eq, Bool.not_eq_true'] at ok
    obtain ⟨o1, o2⟩ := ok
    obtain ⟨rfl, hn⟩ := nx _ o1
    obtain ⟨q, e1, hj⟩ := jp _ _ o2
    exact z_s_ifnull e1 hd (fun w => hj _ _ _ _ (h.1 w)) (fun w => hn _ _ _ _ (h.2 w))
  · simp only [z_okS, Bool.and_eq_true, decide_eq_true_eq, beq_iff_eq, Bool.not_eq_true'] at ok
    obtain ⟨o1, o2⟩ := ok
    obtain ⟨rfl, hn⟩ := nx _ o1
    obtain ⟨q, e1, hj⟩ := jp _ _ o2
    exact z_s_ifnonnull e1 hd (fun w => hj _ _ _ _ (h.1 w)) (fun w => hn _ _ _ _ (h.2 w))
  · simp only [z_okS, Bool.and_eq_true, decide_eq_true_eq, beq_iff_eq, Bool.not_eq_true'] at ok
    obtain ⟨o1, o2⟩ := ok
    obtain ⟨rfl, hn⟩ := nx _ o1
    obtain ⟨q, e1, hj⟩ := jp _ _ o2
    exact z_s_acmp_eq h.1.1 h.1.2 e1 hd (fun w => hj _ _ _ _ (h.2.1 w)) (fun w => hn _ _ _ _ (h.2.2 w))
  · simp only [z_okS, Bool.and_eq_true, decide_eq_true_eq, beq_iff_eq, Bool.not_eq_true'] at ok
    obtain ⟨o1, o2⟩ := ok
    obtain ⟨rfl, hn⟩ := nx _ o1
    obtain ⟨q, e1, hj⟩ := jp _ _ o2
    exact z_s_acmp_ne h.1.1 h.1.2 e1 hd (fun w => hj _ _ _ _ (h.2.1 w)) (fun w => hn _ _ _ _ (h.2.2 w))
  · simp only [z_okS, Bool.and_eq_true, decide_eq_true_eq, beq_iff_eq, Bool.not_eq_true'] at ok
    obtain ⟨⟨o1, o2⟩, o3⟩ := ok
    obtain ⟨w1, w2⟩ := z_tk_get _ _ o1
    rcases z_sw_tab _ _ h with ⟨k, t, q1, q2, q3⟩ | ⟨q1, q2⟩
    · obtain ⟨o, g1, g2⟩ := w2 k t q1
      obtain ⟨q, e1, hj⟩ := jp _ _ g2
      have hk := (List.getElem?_eq_some_iff.mp q1).1
      exact z_s_tabIn (by omega) (by omega) (by rw [q2, show (_ + (k : Int) - _ : Int).toNat = k by omega, ← Array.getElem?_toList]; exact g1) e1 hd (hj _ _ _ _ q3)
    · obtain ⟨q, e1, hj⟩ := jp _ _ o2
      exact z_s_tabOut (by omega) e1 hd (hj _ _ _ _ q2)
  · simp only [z_okS, Bool.and_eq_true, decide_eq_true_eq, beq_iff_eq, Bool.not_eq_true'] at ok
    obtain ⟨⟨o1, o2⟩, o3⟩ := ok
    obtain ⟨t, g1, g2⟩ := z_sw_lk _ _ o1 o2 h
    obtain ⟨q, e1, hj⟩ := jp _ _ g1
    exact z_s_look o3 rfl e1 hd (hj _ _ _ _ g2)
  · simp only [z_okS, Bool.and_eq_true, decide_eq_true_eq, beq_iff_eq, Bool.not_eq_true'] at ok
    obtain ⟨o1, o2⟩ := ok
    obtain ⟨q, g1, g2⟩ := z_cw_sp o2
    simp only [Bool.and_eq_true, decide_eq_true_eq] at g2
    obtain ⟨c1, c2⟩ := z_ck_sp h
    obtain ⟨rfl, hn⟩ := nx _ o1
    exact z_s_getf g1 g2.1 (z_in_gw g2.2) c1 hd (hn _ _ _ _ c2)
  · simp only [z_okS, Bool.and_eq_true, decide_eq_true_eq, beq_iff_eq, Bool.not_eq_true'] at ok
    obtain ⟨o1, o2⟩ := ok
    obtain ⟨q, g1, g2⟩ := z_cw_sp o2
    simp only [Bool.and_eq_true, decide_eq_true_eq] at g2
    obtain ⟨c1, c4⟩ := z_ck_sp h
    obtain ⟨rfl, hn⟩ := nx _ o1
    exact z_X_rg fun rr => (fun w => z_s_putf g1 g2.1.1 (z_in_gw g2.1.2) c1 w.1 w.2.1 g2.2 hd (hn _ _ _ _ w.2.2)) (z_fwk_sp (rr _ List.mem_cons_self) c4)
  · simp only [z_okS, Bool.and_eq_true, decide_eq_true_eq, beq_iff_eq, Bool.not_eq_true'] at ok
    obtain ⟨o1, o2⟩ := ok
    obtain ⟨c1, c2, c3⟩ := z_ck_sp h
    obtain ⟨rfl, hn⟩ := nx _ o1
    exact z_s_iald o2 rfl c1 c2.1 c2.2 hd (hn _ _ _ _ c3)
  · simp only [z_okS, Bool.and_eq_true, decide_eq_true_eq, beq_iff_eq, Bool.not_eq_true'] at ok
    obtain ⟨o1, o2⟩ := ok
    obtain ⟨c1, c2, c3⟩ := z_ck_sp h
    obtain ⟨rfl, hn⟩ := nx _ o1
    exact z_s_zald o2 rfl c1 c2.1 c2.2 hd (hn _ _ _ _ c3)
  · simp only [z_okS, Bool.and_eq_true, decide_eq_true_eq, beq_iff_eq, Bool.not_eq_true'] at ok
    obtain ⟨o1, o2⟩ := ok
    obtain ⟨c1, c2, c3⟩ := z_ck_sp h
    obtain ⟨rfl, hn⟩ := nx _ o1
    exact z_s_aald rfl o2 rfl c1 c2.1 c2.2 hd (hn _ _ _ _ c3)
  · simp only [z_okS, Bool.and_eq_true, decide_eq_true_eq, beq_iff_eq, Bool.not_eq_true'] at ok
    obtain ⟨o1, o2⟩ := ok
    obtain ⟨c1, c2⟩ := z_ck_sp h
    obtain ⟨rfl, hn⟩ := nx _ o1
    exact z_s_alen rfl o2 rfl c1 hd (hn _ _ _ _ c2)
  · simp only [z_okS, Bool.and_eq_true, decide_eq_true_eq, beq_iff_eq, Bool.not_eq_true'] at ok
    obtain ⟨o1, o2⟩ := ok
    obtain ⟨c1, c2, c3⟩ := z_ck_sp h
    obtain ⟨rfl, hn⟩ := nx _ o1
    exact z_s_iast o2 rfl c1 c2.1 c2.2 hd (hn _ _ _ _ c3)
  · simp only [z_okS, Bool.and_eq_true, decide_eq_true_eq, beq_iff_eq, Bool.not_eq_true'] at ok
    obtain ⟨o1, o2⟩ := ok
    obtain ⟨c1, c2, c3, c4⟩ := z_ck_sp h
    obtain ⟨rfl, hn⟩ := nx _ o1
    exact z_s_zast o2 rfl c1 c2.1 c2.2 c3 hd (hn _ _ _ _ c4)
  · simp only [z_okS, Bool.and_eq_true, decide_eq_true_eq, beq_iff_eq, Bool.not_eq_true'] at ok
    obtain ⟨⟨o1, o2⟩, o3⟩ := ok
    obtain ⟨q, g1, g2⟩ := z_cw_sp o3
    obtain ⟨c1, c2, c3, c4, c5⟩ := z_ck_sp h
    simp only [Bool.and_eq_true, Bool.or_eq_true, Bool.not_eq_true', beq_iff_eq] at c1
    obtain ⟨rfl, hn⟩ := nx _ o1
    exact z_s_aast rfl o2 c1.2 rfl c1.1 c2.1 c2.2 g1 (of_decide_eq_true g2) c3 c4 hd (hn _ _ _ _ c5)
  · simp only [z_okS, Bool.and_eq_true, decide_eq_true_eq, beq_iff_eq, Bool.not_eq_true'] at ok
    obtain ⟨o1, o2⟩ := ok
    obtain ⟨rfl, c1⟩ := h
    obtain ⟨c1, c2⟩ := z_ck_sp c1
    simp only [Bool.and_eq_true, Bool.not_eq_true', beq_iff_eq, Nat.ble_eq] at c1
    obtain ⟨rfl, hn⟩ := nx _ o1
    exact z_s_newi c1.1.1.1 c1.2 c1.1.1.2 c1.1.2 (z_in_gw o2) hd (hn _ _ _ _ c2)
  · simp only [z_okS, Bool.and_eq_true, decide_eq_true_eq, beq_iff_eq, Bool.not_eq_true'] at ok
    obtain ⟨o1, o2⟩ := ok
    obtain ⟨rfl, c1⟩ := h
    obtain ⟨c1, c2⟩ := z_ck_sp c1
    simp only [Bool.and_eq_true, Bool.not_eq_true', beq_iff_eq, Nat.ble_eq] at c1
    obtain ⟨rfl, hn⟩ := nx _ o1
    exact z_s_newz c1.1.1.1 c1.2 c1.1.1.2 c1.1.2 (z_in_gw o2) hd (hn _ _ _ _ c2)
  · simp only [z_okS, Bool.and_eq_true, decide_eq_true_eq, beq_iff_eq, Bool.not_eq_true'] at ok
    obtain ⟨⟨o1, o2⟩, o3⟩ := ok
    obtain ⟨rfl, c1⟩ := h
    obtain ⟨c1, c2⟩ := z_ck_sp c1
    simp only [Bool.and_eq_true, Bool.not_eq_true', beq_iff_eq, Nat.ble_eq] at c1
    obtain ⟨rfl, hn⟩ := nx _ o1
    exact z_s_newq o2 c1.2 c1.1.1.2 c1.1.1.1 c1.1.2 (z_in_gw o3) hd (hn _ _ _ _ c2)
  · simp only [z_okS, Bool.and_eq_true, decide_eq_true_eq, beq_iff_eq, Bool.not_eq_true'] at ok
    obtain ⟨o1, o2⟩ := ok
    obtain ⟨q, g1, g2⟩ := z_cw_sp o2
    simp only [Bool.and_eq_true] at g2
    obtain ⟨c1, c2⟩ := z_ck_sp h
    simp only [Bool.and_eq_true, Bool.not_eq_true', beq_iff_eq, Nat.ble_eq] at c1
    obtain ⟨rfl, hn⟩ := nx _ o1
    exact z_s_new g1 c1.1.2 c1.1.1 c1.2 (z_in_gw g2.1.1) (z_in_gw g2.1.2) (z_in_gw g2.2) hd (hn _ _ _ _ c2)
  · simp only [z_okS, Bool.and_eq_true, decide_eq_true_eq, beq_iff_eq, Bool.not_eq_true'] at ok
    obtain ⟨⟨⟨⟨o1, o2, o2k⟩, o3⟩, o4⟩, o5⟩ := ok
    subst o2k
    obtain ⟨o2h, rfl, rfl, rfl⟩ := z_cl4_sp o2
    split at h
    · next b asx stx hpop =>
      obtain ⟨c1, c2⟩ := z_ck_sp h
      obtain ⟨e2, e3, b1, b2, b3⟩ := z_call_sp hpop c2
      obtain ⟨rfl, hn⟩ := nx _ o1
      rw [e2, List.reverse_cons, List.append_assoc]
      exact z_s_callV o2h o3 (by simpa using e3) b1 c1 (z_in_gw o4) (z_in_gw o5) b2 hd (z_Y_mono (fun v σ1 w => hn _ _ _ _ w) b3)
    · exact absurd h id
  · simp only [z_okS, Bool.and_eq_true, decide_eq_true_eq, beq_iff_eq, Bool.not_eq_true'] at ok
    obtain ⟨⟨⟨⟨⟨⟨o1, o2⟩, o3⟩, o4⟩, o5⟩, o6⟩, o7⟩ := ok
    obtain ⟨c1, ⟨c2, c3, c4, c5, c6, c7⟩, c8, c9⟩ := z_ck_sp h
    simp only [Bool.and_eq_true, Nat.ble_eq, Bool.or_eq_true, beq_iff_eq] at c1 o3
    obtain ⟨rfl, hn⟩ := nx _ o1
    rcases o3 with o3 | o3
    · exact z_s_copy c1.1.1.1 o3 rfl (o2.symm.trans o3) rfl c1.1.1.2 c1.1.2 c3 c4 c5 c6 c7 c1.2 (z_in_gw o4) (z_in_gw o5) (z_in_gw o6) (z_in_gw o7) c2 hd (hn _ _ _ _ c9)
    · exact z_s_copyz c1.1.1.1 o3 rfl (o2.symm.trans o3) rfl c1.1.1.2 c1.1.2 c3 c4 c5 c6 c7 c1.2 (z_in_gw o4) (z_in_gw o5) (z_in_gw o6) (z_in_gw o7) c2 hd (c8 o3) (hn _ _ _ _ c9)
  · simp only [z_okS, Bool.and_eq_true, decide_eq_true_eq, beq_iff_eq, Bool.not_eq_true'] at ok
    obtain ⟨⟨⟨⟨o1, o2⟩, o3⟩, o4⟩, o5⟩ := ok
    obtain ⟨c1, c2, c3⟩ := z_ck_sp h
    rw [Nat.ble_eq] at c1
    obtain ⟨rfl, hn⟩ := nx _ o1
    exact z_s_abs c1 (z_in_gw o2) (z_in_gw o3) (z_in_gw o4) (z_in_gw o5) c2 hd (hn _ _ _ _ c3)
  · simp only [z_okS, Bool.and_eq_true, decide_eq_true_eq, beq_iff_eq, Bool.not_eq_true'] at ok
    obtain ⟨⟨⟨o1, o2⟩, o3⟩, o4⟩ := ok
    obtain ⟨o2h, rfl, rfl, rfl⟩ := z_cl4_sp o2
    split at h
    · next as st' hpop =>
      obtain ⟨e2, e3, b1, b2, b3⟩ := z_call_sp hpop h
      obtain ⟨rfl, hn⟩ := nx _ o1
      rw [e2]
      exact z_s_callSN o2h o3 (by simpa using e3) b1 o4 b2 hd (z_Y_mono (fun v σ1 w => hn _ _ _ _ w) b3)
    · exact absurd h id
  · simp only [z_okS, Bool.and_eq_true, decide_eq_true_eq, beq_iff_eq, Bool.not_eq_true'] at ok
    obtain ⟨⟨⟨⟨o1, o2⟩, o3⟩, o4⟩, o5⟩ := ok
    obtain ⟨o2h, rfl, rfl, rfl⟩ := z_cl4_sp o2
    split at h
    · next as st' hpop =>
      obtain ⟨e2, e3, b1, b2, b3⟩ := z_call_sp hpop h
      obtain ⟨rfl, hn⟩ := nx _ o1
      rw [e2]
      exact z_s_callS o2h o3 (by simpa using e3) b1 o4 (z_in_gw o5) b2 hd (z_Y_mono (fun v σ1 w => hn _ _ _ _ w) b3)
    · exact absurd h id
  · simp only [z_okS, Bool.and_eq_true, decide_eq_true_eq, beq_iff_eq, Bool.not_eq_true'] at ok
    obtain ⟨⟨⟨o1, o2⟩, o3⟩, o4⟩ := ok
    obtain ⟨c1, c2, c3, c4⟩ := z_ck_sp h
    rw [Nat.ble_eq] at c1
    obtain ⟨rfl, hn⟩ := nx _ o1
    exact z_s_obj c3 c1 (z_in_gw o2) (z_in_gw o3) (z_in_gw o4) c2 hd (hn _ _ _ _ c4)
  · simp only [z_okS, Bool.and_eq_true, decide_eq_true_eq, beq_iff_eq, Bool.not_eq_true'] at ok
    obtain ⟨⟨⟨⟨⟨o1, o2⟩, o3⟩, o4⟩, o5⟩, o6⟩ := ok
    obtain ⟨o2h, rfl, rfl, rfl⟩ := z_cl4_sp o2
    split at h
    · next b asx stx hpop =>
      obtain ⟨c1, c2⟩ := h
      obtain ⟨e2, e3, b1, b2, b3⟩ := z_call_sp hpop c2
      obtain ⟨rfl, hn⟩ := nx _ o1
      rw [e2, List.reverse_cons, List.append_assoc]
      exact z_s_callIN o2h o3 o4 o5 (by simpa using e3) b1 c1 o6 b2 hd (z_Y_mono (fun v σ1 w => hn _ _ _ _ w) b3)
    · exact absurd h id
  · simp only [z_okS, Bool.and_eq_true, decide_eq_true_eq, beq_iff_eq, Bool.not_eq_true'] at ok
    obtain ⟨⟨⟨⟨⟨o1, o2⟩, o3⟩, o4⟩, o5⟩, o6⟩ := ok
    obtain ⟨o2h, rfl, rfl, rfl⟩ := z_cl4_sp o2
    split at h
    · next b asx stx hpop =>
      obtain ⟨c1, c2⟩ := h
      obtain ⟨e2, e3, b1, b2, b3⟩ := z_call_sp hpop c2
      obtain ⟨rfl, hn⟩ := nx _ o1
      rw [e2, List.reverse_cons, List.append_assoc]
      exact z_s_callI o2h o3 o4 o5 (by simpa using e3) b1 c1 (z_in_gw o6) b2 hd (z_Y_mono (fun v σ1 w => hn _ _ _ _ w) b3)
    · exact absurd h id
  · simp only [z_okS, Bool.and_eq_true, decide_eq_true_eq, beq_iff_eq, Bool.not_eq_true'] at ok
    obtain ⟨rfl, o2⟩ := ok
    obtain ⟨c1, c2⟩ := z_ck_sp h
    exact z_s_ret (by simpa using c1) o2 hd c2
  · simp only [z_okS, Bool.and_eq_true, decide_eq_true_eq, beq_iff_eq, Bool.not_eq_true'] at ok
    obtain ⟨rfl, o2⟩ := ok
    obtain ⟨c1, c2⟩ := z_ck_sp h
    exact z_s_iret (by simpa using c1) o2 hd c2
  · simp only [z_okS, Bool.and_eq_true, decide_eq_true_eq, beq_iff_eq, Bool.not_eq_true'] at ok
    obtain ⟨rfl, o2⟩ := ok
    obtain ⟨c1, c2⟩ := z_ck_sp h
    obtain ⟨c3, c4⟩ := z_ck_sp c2
    exact z_s_zret (by simpa using c1) (by simpa using c3) o2 hd c4
  · simp only [z_okS, Bool.and_eq_true, decide_eq_true_eq, beq_iff_eq, Bool.not_eq_true'] at ok
    obtain ⟨rfl, o2⟩ := ok
    obtain ⟨c1, c2⟩ := z_ck_sp h
    exact z_s_lret (by simpa using c1) o2 hd c2
  · simp only [z_okS, Bool.and_eq_true, decide_eq_true_eq, beq_iff_eq, Bool.not_eq_true'] at ok
    obtain ⟨rfl, o2⟩ := ok
    obtain ⟨c1, c2⟩ := z_ck_sp h
    obtain ⟨n, hnn⟩ := z_isO_sp o2
    exact z_s_aret (by simpa using c1) hnn hd c2
  · exact absurd h id
theorem z_msk_mem : ∀ (bs : List Bool) (ls : List (Option z_V)) (k : Nat) (v : z_V), (z_msk bs ls)[k]? = some (some v) → ls[k]? = some (some v)
  | _, [], k, v, h => by cases ‹List Bool› <;> simp [z_msk] at h
  | [], a :: l, k, v, h => h
  | b :: bs, a :: l, 0, v, h => by cases b <;> simp [z_msk] at h ⊢; exact h
  | b :: bs, a :: l, k + 1, v, h => by
    simp only [z_msk, List.getElem?_cons_succ] at h ⊢
    exact z_msk_mem bs l k v h
theorem z_X_msk {pc : Nat} {bs : List Bool} {ls : List (Option z_V)} {st : List z_V} {N : Nat} {σ : z_M} (h : z_X e ph d y Ni No pc (z_msk bs ls) st N σ Q) : z_X e ph d y Ni No pc ls st N σ Q := by
  intro r1 r2 r3 p env s m args below meth c H locs la C R h1 h2 hl
  refine h (fun v hv => ?_) r2 r3 p env s m args below meth c H locs la C R h1 h2 (z_has_sub hl fun q hq => ?_)
  · obtain ⟨k, hk⟩ := List.getElem?_of_mem hv
    exact r1 v (List.mem_of_getElem? (z_msk_mem bs ls k v hk))
  · obtain ⟨j, w⟩ := q
    obtain ⟨k, v, g1, g2, g3⟩ := (z_en_mem e _ 0 j w).mp hq
    exact (z_en_mem e _ 0 j w).mpr ⟨k, v, g1, z_msk_mem bs ls k v g2, g3⟩
theorem z_wp_ok (hok : z_okM y full = true) : ∀ k, z_Xr e ph d y Ni No Q full (z_wp e ph d y Ni No Q full k) := by
  have hL : z_okL y full 0 full = true := by
    simp only [z_okM, Bool.and_eq_true] at hok; exact hok.1
  intro k
  induction k with
  | zero =>
    intro j r ls st N σ hr h p hp
    unfold z_wp at h
    unfold z_pcAt at hp
    rw [← hr] at hp
    split at h
    · next i r' => cases hp; exact h
    · exact absurd h id
  | succ k ih =>
    intro j r ls st N σ hr h p hp
    unfold z_wp at h
    unfold z_pcAt at hp
    rw [← hr] at hp
    split at h
    · next i r' =>
      cases hp
      obtain ⟨g1, g2⟩ := z_okL_get full 0 j i r' hL hr.symm
      split at h
      · exact z_X_msk h
      · refine z_step_ok g2 ?_ ih h
        rw [g1, Nat.zero_add, ← List.drop_drop, ← hr]; rfl
    · exact absurd h id
/-- a piece of code from a place on, by its weakest precondition -/
theorem z_blk (hok : z_okM y full = true) (k ix : Nat) {p : Nat} {ls : List (Option z_V)} {st : List z_V} {N : Nat} {σ : z_M} (hp : z_pcAt full ix = some p) (h : z_w1 e ph d y Ni No Q full k ix ls st N σ) : z_X e ph d y Ni No p ls st N σ Q := by
  have hL : z_okL y full 0 full = true := by
    simp only [z_okM, Bool.and_eq_true] at hok; exact hok.1
  unfold z_w1 at h
  unfold z_pcAt at hp
  split at h
  · next i r hr =>
    rw [hr] at hp
    cases hp
    obtain ⟨g1, g2⟩ := z_okL_get full 0 ix i r hL hr
    refine z_step_ok g2 ?_ (z_wp_ok hok k) h
    rw [g1, Nat.zero_add, ← List.drop_drop, hr]; rfl
  · exact absurd h id
theorem z_ent (hok : z_okM y full = true) {ml : Nat} (hml : (z_hd y).2.2.1 = ml) {N N' : Nat} {args : List z_V} {σ : z_M} (hc : Nat.ble (z_cat args) ml = true) (hN : N ≤ N') (h : z_X e ph d y N N' 0 (z_al ml args) [] N σ Q) : z_Y e ph (d + 1) y args N N' σ Q := by
  subst hml
  simp only [z_okM, Bool.and_eq_true] at hok
  exact z_Y_of hok.2 (Nat.ble_eq.mp hc) hN h
end ZT
