section LWC
variable {p : Program} {env : Env} {s : State} {m : MethodId} {below : List Frame} {meth : Method} {c : Code} {b L : Nat} {xs : Nat → Int32} {e : z_E} {ph : Bool} {N N' pc cells slots d : Nat} {H : Heap} {locs : List Loc} {la : Array Slot} {σ : z_M} {st : List Value} {QQ : State → Prop} {Q : Int → z_M → Prop}
theorem lw_run {y' : Nat} {args0 : List z_V} {st0 : List Value} (R : z_Rep e ph N σ H locs)
    (hr : va_Run p e.1 env room_1 s m #[.ref b] below meth c H locs cells slots (N' - N) (z_sl N' - z_sl N) (F0 m pc la st0) st (z_Qc e ph (z_hd y').2.2.2.1 N' Q (args0.map (z_vv e)).toArray) (z_A e))
    (k : ∀ r σ' H1 locs1, Q r σ' → z_rM σ' → z_rr (z_hd y').2.2.2.1 r → z_Rep e ph N' σ' H1 locs1 → W p e.1 env room_1 s m #[.ref b] below meth c H1 locs1 (cells + (N' - N)) (slots + (z_sl N' - z_sl N)) QQ (F0 m (pc + 3) la ((z_rv e (z_hd y').2.2.2.1 r).toList ++ st))) :
    W p e.1 env room_1 s m #[.ref b] below meth c H locs cells slots QQ (F0 m pc la st0) := by
  intro T hT X
  obtain ⟨v, st₀, t, T', L', h0, X', hL, e1, e2, ⟨r, σ', hQ, hM, hrr, hv, R'⟩, stp⟩ := hr T hT X
  have hv' : v = z_rv e (z_hd y').2.2.2.1 r := by cases hv; rfl
  subst hv'
  obtain ⟨t2, a1, b1⟩ := k r σ' T'.heap (locs ++ L') hQ hM hrr ⟨by rw [e1]; exact R'.1, by rw [e1]; exact R'.2.1, by rw [e1]; exact R'.2.2.1, by rw [e1]; exact R'.2.2.2.1, fun q hq => by
    rcases List.mem_append.mp hq with h | h
    · exact R.2.2.2.2 q h
    · exact hL q h⟩ T' rfl X'
  exact ⟨t2, stp t2 a1, b1⟩
theorem lw_cr {d' : Nat} (y' : Nat) (h : (z_hd y').2.2.1 ≤ 21) (hd : d' ≤ 1500) : (z_rm d' N N').frames + 1 ≤ room_1.frames ∧ 8 + ((z_hd y').2.2.1 + 11) + (z_rm d' N N').locals ≤ room_1.locals := by
  show d' + 1 ≤ 2048 ∧ 8 + ((z_hd y').2.2.1 + 11) + (40 * d' + 60) ≤ 84000
  omega
theorem lw_callV {y' ix : Nat} {b0 : Int} {As : List z_V} (C0 : lw_At p s m meth c b L xs) (hKS : z_KS e s) (hh : z_hok y') (hst : (z_hd y').2.2.2.2.2.2.2.2 = false) (hn : As.length = (z_hd y').2.2.2.2.2.1) (hok : z_ok N ((z_hd y').2.2.2.2.1 + 1) b0 = true) (hw1 : Cond.methodLink R_law ix (z_hd y').1 ∈ z_gw) (hw2 : Cond.selects (z_hd y').1.cls (z_hd y').1 (z_hd y').1 ∈ z_gw) (hdg : decode code pc = .ok (.invokevirtual ix, 3)) (hdd : d ≤ 1501) (hc : cells + (N' - N) ≤ 600000 ∧ slots + (z_sl N' - z_sl N) ≤ 7302250) (rA : z_rS As) (rM : z_rM σ) (R : z_Rep e ph N σ H locs) (hla : la.size = 4) (hcat : (st.map fun v => v.category).sum ≤ 8)
    (hY : z_Y e ph d y' (z_R b0 :: As) N N' σ Q)
    (k : ∀ r σ' H1 locs1, Q r σ' → z_rM σ' → z_rr (z_hd y').2.2.2.1 r → z_Rep e ph N' σ' H1 locs1 → W p e.1 env room_1 s m #[.ref b] below meth c H1 locs1 (cells + (N' - N)) (slots + (z_sl N' - z_sl N)) QQ (F0 m (pc + 3) la ((z_rv e (z_hd y').2.2.2.1 r).toList ++ st))) :
    W p e.1 env room_1 s m #[.ref b] below meth c H locs cells slots QQ (F0 m pc la ((As.map (z_vv e)).reverse ++ .ref (e.2.1.size + b0.toNat) :: st)) := by
  obtain ⟨hx, hb, hr, hml, hown, hts, hX, hbl, hlocks, hgv⟩ := C0
  obtain ⟨k1, k2, k3, k4, k5, k6, k7⟩ := z_hok_sp hh
  rw [hst, cond_false] at k3
  have hts' : ∀ w ∈ z_gw, w.before #[Value.ref b] s = true := fun w hw => hts w (z_gw_tbl hw)
  obtain ⟨d', rfl, hN1, hM⟩ := hY (List.forall_mem_cons.mpr ⟨trivial, rA⟩) rM
  obtain ⟨g0, g1, g2, g3⟩ := z_ok_sp hok
  obtain ⟨q, hcq, hq⟩ := Option.map_eq_some_iff.mp k6
  have hci : (z_hd y').2.2.2.2.1 < 9 := (List.getElem?_eq_some_iff.mp hcq).1
  have he := z_wd_get (e := e) (ph := ph) (σ := σ) g1
  rw [z_ce_obj (kd := (z_hd y').2.2.2.2.1 + 1) (by rw [g2]; exact g3) (by omega), g2] at he
  have hvb : z_vv e (z_R b0) = .ref (e.2.1.size + b0.toNat) := z_vv_pos (by omega)
  refine lw_run (args0 := z_R b0 :: As) (y' := y') R ?_ k
  rw [List.map_cons, hvb]
  refine va_runV (C := (z_hd y').1.cls) ⟨hx, hb, hml, hown, hts'⟩ hM (cwV _ hts' (z_good ?_) rfl rfl rfl ⟨rfl, k4.1, k4.2, k5⟩ (lw_cr y' k7 (by omega))) ⟨z_blind, ?_, fun U hU hW => ?_⟩ rfl (by rw [List.length_map]; exact hn) hla rfl (lv_room hcat) hdg hc
  · intro w hw
    rcases List.mem_append.mp hw with hw | hw
    · simp only [List.mem_cons, List.not_mem_nil, or_false] at hw
      rcases hw with rfl | rfl | rfl | rfl
      · exact hw1
      · exact k3
      · exact hw2
      · exact k2
    · exact z_wsin hh w hw
  · rw [← hq]
    exact va_recv hKS.1 R.2.1 hcq he
  · have := z_pre (args := z_R b0 :: As) hKS R hU hW
    rw [List.map_cons, hvb] at this
    exact this
theorem lw_callI {y' ix : Nat} {b0 : Int} (C0 : lw_At p s m meth c b L xs) (hKS : z_KS e s) (hh : z_hok y') (hst : (z_hd y').2.2.2.2.2.2.2.2 = false) (hini : (z_hd y').1.name = "<init>") (hvoid : (z_hd y').2.2.2.1 = none) (hn : (z_hd y').2.2.2.2.2.1 = 0) (hb0 : 0 ≤ b0) (hw1 : Cond.methodLink R_law ix (z_hd y').1 ∈ z_gw) (hdg : decode code pc = .ok (.invokespecial ix, 3)) (hdd : d ≤ 1501) (hc : cells + (N' - N) ≤ 600000 ∧ slots + (z_sl N' - z_sl N) ≤ 7302250) (rM : z_rM σ) (R : z_Rep e ph N σ H locs) (hla : la.size = 4) (hcat : (st.map fun v => v.category).sum ≤ 8)
    (hY : z_Y e ph d y' [z_R b0] N N' σ Q)
    (k : ∀ r σ' H1 locs1, Q r σ' → z_rM σ' → z_Rep e ph N' σ' H1 locs1 → W p e.1 env room_1 s m #[.ref b] below meth c H1 locs1 (cells + (N' - N)) (slots + (z_sl N' - z_sl N)) QQ (F0 m (pc + 3) la st)) :
    W p e.1 env room_1 s m #[.ref b] below meth c H locs cells slots QQ (F0 m pc la (.ref (e.2.1.size + b0.toNat) :: st)) := by
  obtain ⟨hx, hb, hr, hml, hown, hts, hX, hbl, hlocks, hgv⟩ := C0
  obtain ⟨k1, k2, k3, k4, k5, k6, k7⟩ := z_hok_sp hh
  rw [hst, cond_false] at k3
  have hts' : ∀ w ∈ z_gw, w.before #[Value.ref b] s = true := fun w hw => hts w (z_gw_tbl hw)
  obtain ⟨d', rfl, hN1, hM⟩ := hY (List.forall_mem_cons.mpr ⟨trivial, fun v h => by cases h⟩) rM
  have hvb : z_vv e (z_R b0) = .ref (e.2.1.size + b0.toNat) := z_vv_pos (by omega)
  refine lw_run (args0 := [z_R b0]) (y' := y') (st := st) (Q := Q) (N' := N') R ?_ ?_
  · rw [List.map_cons, hvb]
    refine va_runI (As := []) ⟨hx, hb, hml, hown, hts'⟩ hM (cwI (bytes := (z_hd y').2.1) (maxL := (z_hd y').2.2.1) (ws' := z_gw) _ hts' (z_good (z_wsin hh)) (by show z_ws y' = _; rw [z_ws, hvoid]) rfl rfl (hts' _ k2) (hts' _ hw1) (hts' _ k3) hini ⟨k4.1, k4.2, k5⟩ (lw_cr y' k7 (by omega))) ⟨z_blind, fun U hU hW => ?_⟩ rfl (by rw [hn]; rfl) hla rfl (lv_room hcat) hdg hc
    have := z_pre (args := [z_R b0]) hKS R hU hW
    rw [List.map_cons, hvb] at this
    exact this
  · intro r σ' H1 locs1 h1 h2 h3 h4
    rw [hvoid]
    exact k r σ' H1 locs1 h1 h2 h4
theorem lw_new {ci ix : Nat} {q : vw_C} (C0 : lw_At p s m meth c b L xs) (hKS : z_KS e s) (hc : z_cl[ci]? = some q) (hk : z_knd (N : Int) = ci + 1) (hw : Cond.classLink R_law ix q.1 ∈ z_gw) (hw3 : Cond.initialized q.1 ∈ z_gw) (hdg : decode code pc = .ok (.new ix, 3)) (hcs : cells + 1 ≤ 600000 ∧ slots + z_slot N ≤ 7302250) (rM : z_rM σ) (R : z_Rep e false N σ H locs)
    (k : ∀ H1, z_rM (z_nu σ (N : Int) (ci + 1)) → z_Rep e false (N + 1) (z_nu σ (N : Int) (ci + 1)) H1 locs → W p e.1 env room_1 s m #[.ref b] below meth c H1 locs (cells + 1) (slots + z_slot N) QQ (F0 m (pc + 3) la (.ref (e.2.1.size + N) :: st))) :
    W p e.1 env room_1 s m #[.ref b] below meth c H locs cells slots QQ (F0 m pc la st) := by
  obtain ⟨hx, hb, hr, hml, hown, hts, hX, hbl, hlocks, hgv⟩ := C0
  have hts' : ∀ w ∈ z_gw, w.before #[Value.ref b] s = true := fun w hw => hts w (z_gw_tbl hw)
  obtain ⟨f1, f2, f3, f4⟩ := z_cls ci q hc
  have hci : ci < 9 := (List.getElem?_eq_some_iff.mp hc).1
  have hsl : z_slot N = q.2.2 := by unfold z_slot; rw [hk, if_pos (by omega)]; exact f2
  have hKn := hKS.1.1 ci q hc
  rw [hsl] at hcs k
  refine W.newcK hx hb hown (hts' _ hw) (hts _ (z_inst_w ci q hc)) (hts' _ hw3) rfl hdg hcs.1 hcs.2 hKn.2.1 (R.1 rfl) fun H1 kC hkC e1 z1 o1 => ?_
  refine k H1 (z_rM_nu rM) ⟨fun _ => by omega, z_P_push R.2.1 ?_ o1 (fun k' hk => z_nu_o rfl (by omega)), ⟨by have := R.2.2.1; have := R.1 rfl; omega, fun q g1 g2 => by rw [o1 q (by omega)]; exact R.2.2.2.1 q g1 g2, R.2.2.2.2⟩⟩
  rw [z_ce_obj (kd := ci + 1) hk (by omega)]
  refine ⟨q, hc, (u_born (z_ty ci) hts' f1 hKn hkC e1 f3).to (fun j hj => ?_)⟩
  show defaultValue (z_ty ci j) = vp_V _ j
  have hg := z_fs_get (e := e) (ph := false) (σ := z_nu σ (N : Int) (ci + 1)) (x := (N : Int)) f2 hj
  unfold vp_V
  rw [List.getD_eq_getElem?_getD]
  refine Eq.trans ?_ (congrArg (fun o : Option Value => o.getD .null) hg).symm
  show _ = z_fv e false (ci + 1) j _ (if (N : Int) = N then z_df (ci + 1) (j : Int) else _)
  rw [if_pos rfl]
  have ht := z_tc_sp (z_tyk ci q hc j hj)
  unfold z_fv z_df
  rw [if_pos (by omega), show ((j : Int)).toNat = j by omega]
  revert ht
  generalize z_ft (ci + 1) j = t
  intro ht
  match t, ht with
  | 0, ht => rw [show z_ty ci j = .int from ht]; rfl
  | 1, ht => obtain ⟨n, hn⟩ := ht; rw [hn]; rfl
  | 2, ht => rcases ht with ⟨n, hn⟩ | ⟨n, hn⟩ <;> rw [hn] <;> rfl
  | 3, ht => rw [show z_ty ci j = .boolean from ht]; rfl
end LWC
