section LWL
variable {p : Program} {env : Env} {s : State} {m : MethodId} {below : List Frame} {meth : Method} {c : Code} {b L : Nat} {xs : Nat → Int32} {e : z_E} {cells slots : Nat} {R : Nat → z_M → Prop}
theorem lw_back {n : Nat} {H : Heap} {locs : List Loc} {la : Array Slot} {QQ : State → Prop} (C0 : lw_At p s m meth c b L xs) (hn : n < 512) (hl : lv_has la 4 (lw_l e b (4 * (n : Int))))
    (k : ∀ la', lv_has la' 4 (lw_l e b (4 * ((n + 1 : Nat) : Int))) → W p e.1 env room_1 s m #[.ref b] below meth c H locs cells slots QQ (F0 m 18 la' [])) : W p e.1 env room_1 s m #[.ref b] below meth c H locs cells slots QQ (F0 m 830 la []) := by
  obtain ⟨hx, hb, hr, hml, hown, hts, hX, hbl, hlocks, hgv⟩ := C0
  refine lv_iinc (v := Int32.ofInt (4 * ((n + 1 : Nat) : Int))) (lv' := [(3, .int (Int32.ofInt (4 * ((n + 1 : Nat) : Int)))), (0, .ref b), (1, .ref (e.2.1.size + 0)), (2, .ref (e.2.1.size + 701))]) hx hb dl_830 hl (k := 3) rfl ?_ (by decide) rfl (fun la' hl' => ?_)
  · rw [← Int32.ofInt_add]
    congr 1
    try omega
  · exact lv_goto (tgt := 18) hx hb dl_833 (by decide) (k la' (lv_sub hl' [1, 2, 3, 0] rfl))
set_option maxHeartbeats 4000000 in
theorem lw_loop (C0 : lw_At p s m meth c b L xs) (hL : L ≤ 2048) (he : e.2.1 = s.heap) (hKS : z_KS e s) (hops : z_ops R) (hmono : ∀ n σ, R n σ → R (n + 1) σ) (hc : cells ≤ 600000 ∧ slots ≤ 7302250) :
    ∀ (k n : Nat), k + n = 513 → 4 * n ≤ L → ∀ (σ : z_M) (H : Heap) (locs : List Loc) (la : Array Slot), lv_has la 4 (lw_l e b (4 * (n : Int))) → R n σ → z_rM σ → z_Rep e true 740 σ H locs → W p e.1 env room_1 s m #[.ref b] below meth c H locs cells slots (lw_Z below #[.ref b] s) (F0 m 18 la []) := by
  obtain ⟨hx, hb, hr, hml, hown, hts, hX, hbl, hlocks, hgv⟩ := id C0
  have hbA : ¬ z_A e b := by show ¬ e.2.1.size ≤ b; rw [he]; omega
  intro k
  induction k with
  | zero => intro n hk hn; omega
  | succ k ih =>
    intro n hk hn σ H locs la hl hR rM Rp
    have hS : va_S (z_A e) s.heap H locs := by rw [← he]; exact Rp.2.2
    refine lv_iload_n hx hb dl_18 rfl (lv_at hl 3 rfl) ?_
    refine lv_aload_n hx hb dl_19 rfl (lv_at hl 0 rfl) ?_
    refine va_slen hx hb hX hbl hbA hS dl_20 ?_
    refine lv_iconst (v := Int32.ofInt 4) hx hb dl_21 rfl ?_
    refine lv_isub hx hb dl_22 ?_
    rw [show Int32.ofNat L - Int32.ofInt 4 = Int32.ofInt ((L : Int) - 4) by rw [Int32.ofInt_sub]; rfl]
    have i1 : z_ir ((L : Int) - 4) := by unfold z_ir; omega
    have i2 : z_ir (4 * (n : Int)) := by unfold z_ir; omega
    refine lv_icmp_gt (tgt := 836) hx hb dl_23 (by decide) (fun q => ?_) (fun q => ?_)
    · refine va_forget (fun l h => by have := Rp.2.2.2.2 l h; rw [← he]; exact this) ?_
      refine W.widen (k := 600000) (n := 7302250) hc.1 hc.2 ?_
      refine lv_iconst (v := 1) hx hb dl_836 rfl ?_
      exact lw_ret hx hb hr hlocks dl_837
    · have hi1 : 4 * (n : Int) + 3 < (L : Int) := by
        have := mt (z_lt i1 i2).mpr q
        omega
      have hn5 : n < 512 := by omega
      have hi0 : 0 ≤ 4 * (n : Int) := by omega
      refine lv_aload_n hx hb dl_26 rfl (lv_at hl 0 rfl) ?_
      refine lv_iload_n hx hb dl_27 rfl (lv_at hl 3 rfl) ?_
      refine va_sld hx hb hX hbl hbA hS (z_vpin i2 hi0 (by omega)) dl_28 ?_
      refine lv_bipush (v := 31) hx hb dl_29 rfl ?_
      refine lv_iand hx hb dl_31 ?_
      generalize (xs (Int32.ofInt (4 * (n : Int))).toNatClampNeg &&& 31) = x
      have cont : ∀ σ' H1 locs1, R (n + 1) σ' → z_rM σ' → z_Rep e true 740 σ' H1 locs1 → W p e.1 env room_1 s m #[.ref b] below meth c H1 locs1 cells slots (lw_Z below #[.ref b] s) (F0 m 830 la []) := fun σ' H1 locs1 g1 g2 g3 => lw_back C0 hn5 hl fun la' hl' => ih (n + 1) (by omega) (by omega) σ' H1 locs1 la' hl' g1 g2 g3
      obtain ⟨h0, h1, h2, h3, h4, h5, h6, h7, h8, h9, h10, h11, h12, h13, h14, h15, h16, h17, h18, h19, h20, h21, h22, h23, h24, h25⟩ := hops e n σ hn5 hR (xs (4 * (n : Int) + 1).toNat).toInt (xs (4 * (n : Int) + 2).toNat).toInt (xs (4 * (n : Int) + 3).toNat).toInt (z_toir _) (z_toir _) (z_toir _)
      by_cases q0 : x.toInt = 0
      · exact lv_tableIn (tgt := 152) hx hb dl_32 (by omega) (by omega) (by rw [q0]; rfl) (by decide) (lw_case_feed C0 hL he hKS hl hi0 hi1 hc rM Rp h0 cont)
      by_cases q1 : x.toInt = 1
      · exact lv_tableIn (tgt := 175) hx hb dl_32 (by omega) (by omega) (by rw [q1]; rfl) (by decide) (lw_case_rule C0 hL he hKS hl hi0 hi1 hc rM Rp h1 cont)
      by_cases q2 : x.toInt = 2
      · exact lv_tableIn (tgt := 198) hx hb dl_32 (by omega) (by omega) (by rw [q2]; rfl) (by decide) (lw_case_drop C0 hL he hKS hl hi0 hi1 hc rM Rp h2 cont)
      by_cases q3 : x.toInt = 3
      · exact lv_tableIn (tgt := 221) hx hb dl_32 (by omega) (by omega) (by rw [q3]; rfl) (by decide) (lw_case_set C0 hL he hKS hl hi0 hi1 hc rM Rp h3 cont)
      by_cases q4 : x.toInt = 4
      · exact lv_tableIn (tgt := 254) hx hb dl_32 (by omega) (by omega) (by rw [q4]; rfl) (by decide) (lw_case_cell C0 hL he hKS hl hi0 hi1 hc rM Rp h4 cont)
      by_cases q5 : x.toInt = 5
      · exact lv_tableIn (tgt := 277) hx hb dl_32 (by omega) (by omega) (by rw [q5]; rfl) (by decide) (lw_case_ask C0 hL he hKS hl hi0 hi1 hc rM Rp h5 cont)
      by_cases q6 : x.toInt = 6
      · exact lv_tableIn (tgt := 310) hx hb dl_32 (by omega) (by omega) (by rw [q6]; rfl) (by decide) (lw_case_fresh C0 hL he hKS hl hi0 hi1 hc rM Rp h6 cont)
      by_cases q7 : x.toInt = 7
      · exact lv_tableIn (tgt := 343) hx hb dl_32 (by omega) (by omega) (by rw [q7]; rfl) (by decide) (lw_case_steps C0 hL he hKS hl hi0 hi1 hc rM Rp h7 cont)
      by_cases q8 : x.toInt = 8
      · exact lv_tableIn (tgt := 356) hx hb dl_32 (by omega) (by omega) (by rw [q8]; rfl) (by decide) (lw_case_bound C0 hL he hKS hl hi0 hi1 hc rM Rp h8 cont)
      by_cases q9 : x.toInt = 9
      · exact lv_tableIn (tgt := 379) hx hb dl_32 (by omega) (by omega) (by rw [q9]; rfl) (by decide) (lw_case_policy C0 hL he hKS hl hi0 hi1 hc rM Rp h9 cont)
      by_cases q10 : x.toInt = 10
      · exact lv_tableIn (tgt := 402) hx hb dl_32 (by omega) (by omega) (by rw [q10]; rfl) (by decide) (lw_case_kept C0 hL he hKS hl hi0 hi1 hc rM Rp h10 cont)
      by_cases q11 : x.toInt = 11
      · exact lv_tableIn (tgt := 435) hx hb dl_32 (by omega) (by omega) (by rw [q11]; rfl) (by decide) (lw_case_asked C0 hL he hKS hl hi0 hi1 hc rM Rp h11 cont)
      by_cases q12 : x.toInt = 12
      · exact lv_tableIn (tgt := 468) hx hb dl_32 (by omega) (by omega) (by rw [q12]; rfl) (by decide) (lw_case_key C0 hL he hKS hl hi0 hi1 hc rM Rp h12 cont)
      by_cases q13 : x.toInt = 13
      · exact lv_tableIn (tgt := 501) hx hb dl_32 (by omega) (by omega) (by rw [q13]; rfl) (by decide) (lw_case_wave C0 hL he hKS hl hi0 hi1 hc rM Rp h13 cont)
      by_cases q14 : x.toInt = 14
      · exact lv_tableIn (tgt := 524) hx hb dl_32 (by omega) (by omega) (by rw [q14]; rfl) (by decide) (lw_case_would C0 hL he hKS hl hi0 hi1 hc rM Rp h14 cont)
      by_cases q15 : x.toInt = 15
      · exact lv_tableIn (tgt := 547) hx hb dl_32 (by omega) (by omega) (by rw [q15]; rfl) (by decide) (lw_case_heirs C0 hL he hKS hl hi0 hi1 hc rM Rp h15 cont)
      by_cases q16 : x.toInt = 16
      · exact lv_tableIn (tgt := 570) hx hb dl_32 (by omega) (by omega) (by rw [q16]; rfl) (by decide) (lw_case_chain C0 hL he hKS hl hi0 hi1 hc rM Rp h16 cont)
      by_cases q17 : x.toInt = 17
      · exact lv_tableIn (tgt := 593) hx hb dl_32 (by omega) (by omega) (by rw [q17]; rfl) (by decide) (lw_case_next C0 hL he hKS hl hi0 hi1 hc rM Rp h17 cont)
      by_cases q18 : x.toInt = 18
      · exact lv_tableIn (tgt := 606) hx hb dl_32 (by omega) (by omega) (by rw [q18]; rfl) (by decide) (lw_case_clear C0 hL he hKS hl hi0 hi1 hc rM Rp h18 cont)
      by_cases q19 : x.toInt = 19
      · exact lv_tableIn (tgt := 619) hx hb dl_32 (by omega) (by omega) (by rw [q19]; rfl) (by decide) (lw_case_start C0 hL he hKS hl hi0 hi1 hc rM Rp h19 cont)
      by_cases q20 : x.toInt = 20
      · exact lv_tableIn (tgt := 662) hx hb dl_32 (by omega) (by omega) (by rw [q20]; rfl) (by decide) (lw_case_step C0 hL he hKS hl hi0 hi1 hc rM Rp h20 cont)
      by_cases q21 : x.toInt = 21
      · exact lv_tableIn (tgt := 695) hx hb dl_32 (by omega) (by omega) (by rw [q21]; rfl) (by decide) (lw_case_stop C0 hL he hKS hl hi0 hi1 hc rM Rp h21 cont)
      by_cases q22 : x.toInt = 22
      · exact lv_tableIn (tgt := 718) hx hb dl_32 (by omega) (by omega) (by rw [q22]; rfl) (by decide) (lw_case_task C0 hL he hKS hl hi0 hi1 hc rM Rp h22 cont)
      by_cases q23 : x.toInt = 23
      · exact lv_tableIn (tgt := 751) hx hb dl_32 (by omega) (by omega) (by rw [q23]; rfl) (by decide) (lw_case_frame C0 hL he hKS hl hi0 hi1 hc rM Rp h23 cont)
      by_cases q24 : x.toInt = 24
      · exact lv_tableIn (tgt := 784) hx hb dl_32 (by omega) (by omega) (by rw [q24]; rfl) (by decide) (lw_case_led C0 hL he hKS hl hi0 hi1 hc rM Rp h24 cont)
      by_cases q25 : x.toInt = 25
      · exact lv_tableIn (tgt := 807) hx hb dl_32 (by omega) (by omega) (by rw [q25]; rfl) (by decide) (lw_case_count C0 hL he hKS hl hi0 hi1 hc rM Rp h25 cont)
      exact lv_tableOut (tgt := 830) hx hb dl_32 (by omega) (by decide) (cont σ H locs (hmono n σ hR) rM Rp)
end LWL
