/-! texts that are read stand well: all parts -/
abbrev z_WN (G : Int → Int) (w b p h q : Int) (cs : z_Cd) : Prop := z_W G b (b + cs.length) h (h + 1) ∧ 4 * z_ca cs + w ≤ q - p ∧ 1 ≤ (cs.length : Int) ∧ ¬ G (2 * b) = 13
theorem z_wkk_v : z_wkk 0 = 1 ∧ z_wkk 1 = 1 ∧ z_wkk 2 = 1 ∧ z_wkk 3 = 1 ∧ z_wkk 4 = 1 ∧ z_wkk 7 = 3 := by decide
theorem z_ca_v (x y : Int) (r : z_Cd) : z_ca ((x, y) :: r) = (if x = 4 then 1 else 0) + z_ca r := rfl
theorem z_ca_0 : z_ca [] = 0 := rfl
section WF2
variable {g G : Int → Int} {N o b p h q : Int} {cs : z_Cd} {n : Nat}
theorem z_W_un {op : Int} (g1 : G (2 * b) = op) (h0 : 0 ≤ h ∧ h ≤ 18) (hop : op = 4 ∧ 0 ≤ G (2 * b + 1) ∧ G (2 * b + 1) ≤ 11 ∨ op = 11) : z_W G b (b + 1) (h + 1) (h + 1) :=
  z_W_one g1 rfl (by omega) (by omega) (fun D d1 d2 => by
    unfold z_wo
    rw [d1, d2]
    rcases hop with ⟨a, a2, a3⟩ | a
    · exact Or.inr (Or.inr (Or.inr (Or.inl ⟨a, a2, a3, by omega, rfl⟩)))
    · exact Or.inr (Or.inr (Or.inr (Or.inr (Or.inr (Or.inl ⟨a, by omega, rfl⟩))))))
theorem z_W_bi {op : Int} (g1 : G (2 * b) = op) (h0 : 0 ≤ h ∧ h ≤ 17) (hop : 5 ≤ op ∧ op ≤ 10) : z_W G b (b + 1) (h + 1 + 1) (h + 1) :=
  z_W_one g1 rfl (by omega) (by omega) (fun D d1 d2 => by
    unfold z_wo
    rw [d1, d2]
    exact Or.inr (Or.inr (Or.inr (Or.inr (Or.inl ⟨hop.1, hop.2, by omega, by omega⟩)))))
theorem z_W_lf {op : Int} (g1 : G (2 * b) = op) (h0 : 0 ≤ h ∧ h ≤ 18) (hop : op = 1 ∧ 0 ≤ G (2 * b + 1) ∧ G (2 * b + 1) ≤ 99 ∨ op = 2 ∨ op = 3 ∧ 0 ≤ G (2 * b + 1) ∧ G (2 * b + 1) ≤ 11) : z_W G b (b + 1) h (h + 1) :=
  z_W_one g1 rfl (by omega) (by omega) (fun D d1 d2 => by
    unfold z_wo
    rw [d1, d2]
    rcases hop with ⟨a, a2, a3⟩ | a | ⟨a, a2, a3⟩
    · exact Or.inl ⟨a, a2, a3, rfl, by omega⟩
    · exact Or.inr (Or.inl ⟨a, rfl, by omega⟩)
    · exact Or.inr (Or.inr (Or.inl ⟨a, a2, a3, rfl, by omega⟩)))
theorem z_WF_E (ih : z_WF g N G n) (ho : o ≤ 5) (h0 : 0 ≤ h) (h1 : h ≤ 3 * o) (e : z_ps g N (n + 1) 0 o b p = some (.inr (q, cs))) (ha : z_aq G b cs) : z_WN G 1 b p h q cs := by
  obtain ⟨v0, v1, v2, v3, v4, v7⟩ := z_wkk_v
  rw [z_ps_E] at e
  obtain ⟨p1, c1, e1, e⟩ := z_bd_r e
  by_cases x1 : z_pk g N p1 = 63
  · rw [if_pos x1] at e
    by_cases o5 : 5 ≤ o
    · rw [if_pos o5] at e; cases e
    · rw [if_neg o5] at e
      obtain ⟨p2, c2, e2, e⟩ := z_bd_r e
      by_cases x2 : z_pk g N p2 = 58
      · rw [if_pos x2] at e
        obtain ⟨p3, c3, e3, e⟩ := z_bd_r e
        cases e
        obtain ⟨ha1, ⟨ha2, ha3⟩, hr⟩ := (z_aq_app _ _ _).mp ha
        obtain ⟨hb1, ⟨hb2, hb3⟩, hb4⟩ := (z_aq_app _ _ _).mp hr
        obtain ⟨w1, k1, l1, f1⟩ := z_WF_n ih 1 (by decide) (by decide) ho h0 (by show h ≤ 3 * o + 0; omega) e1 ha1
        obtain ⟨w2, k2, l2, f2⟩ := z_WF_n ih 0 (by decide) (by decide) (by omega) h0 (by show h ≤ 3 * (o + 1) + 0; omega) e2 hb1
        obtain ⟨w3, k3, l3, f3⟩ := z_WF_n ih 0 (by decide) (by decide) ho h0 (by show h ≤ 3 * o + 0; omega) e3 hb4
        have hl : ((c1 ++ (12, 2 * (b + c1.length + 1 + c2.length + 1)) :: (c2 ++ (13, 2 * (b + c1.length + 1 + c2.length + 1 + c3.length)) :: c3)).length : Int) = c1.length + 1 + c2.length + 1 + c3.length := by simp only [List.length_append, List.length_cons]; omega
        refine ⟨?_, ?_, by omega, f1⟩
        · rw [hl, show b + (c1.length + 1 + c2.length + 1 + c3.length : Int) = b + c1.length + 1 + c2.length + 1 + c3.length by omega]
          exact z_W_ch w1 w2 w3 ⟨ha2, ha3⟩ ⟨hb2, hb3⟩ (by omega) (by omega) (by omega) f2 f3
        · rw [z_ca_app, z_ca_v, z_ca_app, z_ca_v, if_neg (by omega), if_neg (by omega)]
          omega
      · rw [if_neg x2] at e; cases e
  · rw [if_neg x1] at e
    cases e
    obtain ⟨w1, k1, l1, f1⟩ := z_WF_n ih 1 (by decide) (by decide) ho h0 (by show h ≤ 3 * o + 0; omega) e1 ha
    exact ⟨w1, by omega, l1, f1⟩
theorem z_WF_C (ih : z_WF g N G n) (ho : o ≤ 5) (h0 : 0 ≤ h) (h1 : h ≤ 3 * o) (e : z_ps g N (n + 1) 1 o b p = some (.inr (q, cs))) (ha : z_aq G b cs) : z_WN G 1 b p h q cs := by
  obtain ⟨v0, v1, v2, v3, v4, v7⟩ := z_wkk_v
  rw [z_ps_C] at e
  obtain ⟨p1, c1, e1, e⟩ := z_bd_r e
  by_cases x1 : z_pk g N p1 = 60 ∨ z_pk g N p1 = 61
  · rw [if_pos x1] at e
    obtain ⟨p2, c2, e2, e⟩ := z_bd_r e
    cases e
    obtain ⟨ha1, hr⟩ := (z_aq_app _ _ _).mp ha
    obtain ⟨hb1, ⟨hb2, hb3⟩, -⟩ := (z_aq_app _ _ _).mp hr
    obtain ⟨w1, k1, l1, f1⟩ := z_WF_n ih 2 (by decide) (by decide) ho h0 (by show h ≤ 3 * o + 1; omega) e1 ha1
    obtain ⟨w2, k2, l2, f2⟩ := z_WF_n (h := h + 1) ih 2 (by decide) (by decide) ho (by omega) (by show h + 1 ≤ 3 * o + 1; omega) e2 hb1
    have hl : ((c1 ++ (c2 ++ [((if z_pk g N p1 = 60 then (9 : Int) else 10), (0 : Int))])).length : Int) = c1.length + c2.length + 1 := by simp only [List.length_append, List.length_cons, List.length_nil]; omega
    refine ⟨?_, ?_, by omega, f1⟩
    · rw [hl, show b + (c1.length + c2.length + 1 : Int) = b + c1.length + c2.length + 1 by omega]
      exact z_W_tr (by omega) (by omega) w1 (z_W_tr (by omega) (by omega) w2 (z_W_bi hb2 (by omega) (by split <;> omega)))
    · rw [z_ca_app, z_ca_app, z_ca_v, z_ca_0, if_neg (by split <;> omega)]
      omega
  · rw [if_neg x1] at e
    cases e
    obtain ⟨w1, k1, l1, f1⟩ := z_WF_n ih 2 (by decide) (by decide) ho h0 (by show h ≤ 3 * o + 1; omega) e1 ha
    exact ⟨w1, by omega, l1, f1⟩
theorem z_WF_S (ih : z_WF g N G n) (ho : o ≤ 5) (h0 : 0 ≤ h) (h1 : h ≤ 3 * o + 1) (e : z_ps g N (n + 1) 2 o b p = some (.inr (q, cs))) (ha : z_aq G b cs) : z_WN G 1 b p h q cs := by
  obtain ⟨v0, v1, v2, v3, v4, v7⟩ := z_wkk_v
  rw [z_ps_S] at e
  obtain ⟨p1, c1, e1, e⟩ := z_bd_r e
  obtain ⟨p2, c2, e2, e⟩ := z_bd_r e
  cases e
  obtain ⟨ha1, ha2⟩ := (z_aq_app _ _ _).mp ha
  obtain ⟨w1, k1, l1, f1⟩ := z_WF_n ih 3 (by decide) (by decide) ho h0 (by show h ≤ 3 * o + 2; omega) e1 ha1
  obtain ⟨w2, k2⟩ := z_WF_r (h := h) ih 5 (by decide) ho h0 (by show h ≤ 3 * o + 1; omega) e2 ha2
  have hl : ((c1 ++ c2).length : Int) = c1.length + c2.length := by rw [List.length_append]; omega
  refine ⟨?_, by rw [z_ca_app]; omega, by omega, f1⟩
  rw [hl, show b + (c1.length + c2.length : Int) = b + c1.length + c2.length by omega]
  exact z_W_tr (by omega) (by omega) w1 w2
theorem z_WF_P (ih : z_WF g N G n) (ho : o ≤ 5) (h0 : 0 ≤ h) (h1 : h ≤ 3 * o + 2) (e : z_ps g N (n + 1) 3 o b p = some (.inr (q, cs))) (ha : z_aq G b cs) : z_WN G 1 b p h q cs := by
  obtain ⟨v0, v1, v2, v3, v4, v7⟩ := z_wkk_v
  rw [z_ps_P] at e
  obtain ⟨p1, c1, e1, e⟩ := z_bd_r e
  obtain ⟨p2, c2, e2, e⟩ := z_bd_r e
  cases e
  obtain ⟨ha1, ha2⟩ := (z_aq_app _ _ _).mp ha
  obtain ⟨w1, k1, l1, f1⟩ := z_WF_n ih 4 (by decide) (by decide) ho h0 (by show h ≤ 3 * o + 3; omega) e1 ha1
  obtain ⟨w2, k2⟩ := z_WF_r (h := h) ih 6 (by decide) ho h0 (by show h ≤ 3 * o + 2; omega) e2 ha2
  have hl : ((c1 ++ c2).length : Int) = c1.length + c2.length := by rw [List.length_append]; omega
  refine ⟨?_, by rw [z_ca_app]; omega, by omega, f1⟩
  rw [hl, show b + (c1.length + c2.length : Int) = b + c1.length + c2.length by omega]
  exact z_W_tr (by omega) (by omega) w1 w2
theorem z_WF_R (ih : z_WF g N G n) (ho : o ≤ 5) (h0 : 0 ≤ h) (h1 : h ≤ 3 * o + 1) (e : z_ps g N (n + 1) 5 o b p = some (.inr (q, cs))) (ha : z_aq G b cs) : z_W G b (b + cs.length) (h + 1) (h + 1) ∧ 4 * z_ca cs + 0 ≤ q - p := by
  obtain ⟨v0, v1, v2, v3, v4, v7⟩ := z_wkk_v
  rw [z_ps_R] at e
  by_cases x1 : z_pk g N p = 43 ∨ z_pk g N p = 45
  · rw [if_pos x1] at e
    obtain ⟨p1, c1, e1, e⟩ := z_bd_r e
    obtain ⟨p2, c2, e2, e⟩ := z_bd_r e
    cases e
    obtain ⟨ha1, ⟨ha2, ha3⟩, ha4⟩ := (z_aq_app _ _ _).mp ha
    obtain ⟨w1, k1, l1, f1⟩ := z_WF_n (h := h + 1) ih 3 (by decide) (by decide) ho (by omega) (by show h + 1 ≤ 3 * o + 2; omega) e1 ha1
    obtain ⟨w2, k2⟩ := z_WF_r (h := h) ih 5 (by decide) ho h0 (by show h ≤ 3 * o + 1; omega) e2 ha4
    have hl : ((c1 ++ ((if z_pk g N p = 43 then (5 : Int) else 6), (0 : Int)) :: c2).length : Int) = c1.length + 1 + c2.length := by simp only [List.length_append, List.length_cons]; omega
    refine ⟨?_, ?_⟩
    · rw [hl, show b + (c1.length + 1 + c2.length : Int) = b + c1.length + 1 + c2.length by omega]
      exact z_W_tr (by omega) (by omega) w1 (z_W_tr (by omega) (by omega) (z_W_bi ha2 (by omega) (by split <;> omega)) w2)
    · rw [z_ca_app, z_ca_v, if_neg (by split <;> omega)]
      omega
  · rw [if_neg x1] at e
    cases e
    refine ⟨?_, by rw [z_ca_0]; omega⟩
    show z_W G b (b + ((0 : Nat) : Int)) (h + 1) (h + 1)
    rw [show b + ((0 : Nat) : Int) = b by omega]
    exact z_W_0 (by omega) (by omega)
theorem z_WF_T (ih : z_WF g N G n) (ho : o ≤ 5) (h0 : 0 ≤ h) (h1 : h ≤ 3 * o + 2) (e : z_ps g N (n + 1) 6 o b p = some (.inr (q, cs))) (ha : z_aq G b cs) : z_W G b (b + cs.length) (h + 1) (h + 1) ∧ 4 * z_ca cs + 0 ≤ q - p := by
  obtain ⟨v0, v1, v2, v3, v4, v7⟩ := z_wkk_v
  rw [z_ps_T] at e
  by_cases x1 : z_pk g N p = 42 ∨ z_pk g N p = 47
  · rw [if_pos x1] at e
    obtain ⟨p1, c1, e1, e⟩ := z_bd_r e
    obtain ⟨p2, c2, e2, e⟩ := z_bd_r e
    cases e
    obtain ⟨ha1, ⟨ha2, ha3⟩, ha4⟩ := (z_aq_app _ _ _).mp ha
    obtain ⟨w1, k1, l1, f1⟩ := z_WF_n (h := h + 1) ih 4 (by decide) (by decide) ho (by omega) (by show h + 1 ≤ 3 * o + 3; omega) e1 ha1
    obtain ⟨w2, k2⟩ := z_WF_r (h := h) ih 6 (by decide) ho h0 (by show h ≤ 3 * o + 2; omega) e2 ha4
    have hl : ((c1 ++ ((if z_pk g N p = 42 then (7 : Int) else 8), (0 : Int)) :: c2).length : Int) = c1.length + 1 + c2.length := by simp only [List.length_append, List.length_cons]; omega
    refine ⟨?_, ?_⟩
    · rw [hl, show b + (c1.length + 1 + c2.length : Int) = b + c1.length + 1 + c2.length by omega]
      exact z_W_tr (by omega) (by omega) w1 (z_W_tr (by omega) (by omega) (z_W_bi ha2 (by omega) (by split <;> omega)) w2)
    · rw [z_ca_app, z_ca_v, if_neg (by split <;> omega)]
      omega
  · rw [if_neg x1] at e
    cases e
    refine ⟨?_, by rw [z_ca_0]; omega⟩
    show z_W G b (b + ((0 : Nat) : Int)) (h + 1) (h + 1)
    rw [show b + ((0 : Nat) : Int) = b by omega]
    exact z_W_0 (by omega) (by omega)
theorem z_WF_B (ih : z_WF g N G n) (ho : o ≤ 5) (h0 : 0 ≤ h) (h1 : h ≤ 3 * o + 3) (e : z_ps g N (n + 1) 7 o b p = some (.inr (q, cs))) (ha : z_aq G b cs) : z_WN G 3 b p h q cs := by
  obtain ⟨v0, v1, v2, v3, v4, v7⟩ := z_wkk_v
  rw [z_ps_B] at e
  by_cases x1 : z_pk g N p = 40
  · rw [if_pos x1] at e
    by_cases o5 : 5 ≤ o
    · rw [if_pos o5] at e; cases e
    · rw [if_neg o5] at e
      obtain ⟨p1, c1, e1, e⟩ := z_bd_r e
      by_cases x2 : z_pk g N p1 = 41
      · rw [if_pos x2] at e
        cases e
        obtain ⟨w1, k1, l1, f1⟩ := z_WF_n ih 0 (by decide) (by decide) (by omega) h0 (by show h ≤ 3 * (o + 1) + 0; omega) e1 ha
        exact ⟨w1, by omega, l1, f1⟩
      · rw [if_neg x2] at e; cases e
  · rw [if_neg x1] at e; cases e
theorem z_WF_U (ih : z_WF g N G n) (ho : o ≤ 5) (h0 : 0 ≤ h) (h1 : h ≤ 3 * o + 3) (e : z_ps g N (n + 1) 4 o b p = some (.inr (q, cs))) (ha : z_aq G b cs) : z_WN G 1 b p h q cs := by
  obtain ⟨v0, v1, v2, v3, v4, v7⟩ := z_wkk_v
  have l1 : ∀ x y : Int, (([(x, y)] : z_Cd).length : Int) = 1 := fun _ _ => rfl
  have one : ∀ {x y : Int}, z_aq G b [(x, y)] → G (2 * b) = x ∧ G (2 * b + 1) = y := fun z => z.1
  rw [z_ps_U] at e
  by_cases x1 : z_pk g N p = 40
  · rw [if_pos x1] at e
    obtain ⟨w1, k1, l1, f1⟩ := z_WF_n ih 7 (by decide) (by decide) ho h0 (by show h ≤ 3 * o + 3; omega) e ha
    exact ⟨w1, by omega, l1, f1⟩
  rw [if_neg x1] at e
  by_cases x2 : z_pk g N p = 45
  · rw [if_pos x2] at e
    by_cases o5 : 5 ≤ o
    · rw [if_pos o5] at e; cases e
    rw [if_neg o5] at e
    obtain ⟨p1, c1, e1, e⟩ := z_bd_r e
    cases e
    obtain ⟨ha1, ⟨ha2, ha3⟩, -⟩ := (z_aq_app _ _ _).mp ha
    obtain ⟨w1, k1, l1, f1⟩ := z_WF_n ih 4 (by decide) (by decide) (by omega) h0 (by show h ≤ 3 * (o + 1) + 3; omega) e1 ha1
    have hl : ((c1 ++ [((11 : Int), (0 : Int))]).length : Int) = c1.length + 1 := by rw [List.length_append]; rfl
    refine ⟨?_, ?_, by omega, f1⟩
    · rw [hl, show b + (c1.length + 1 : Int) = b + c1.length + 1 by omega]
      exact z_W_tr (by omega) (by omega) w1 (z_W_un ha2 (by omega) (Or.inr rfl))
    · rw [z_ca_app, z_ca_v, z_ca_0, if_neg (by omega)]
      omega
  rw [if_neg x2] at e
  by_cases x3 : z_pk g N p = 99
  · rw [if_pos x3] at e
    by_cases dg : z_dg (z_pk g N (p + 1))
    · rw [if_pos dg] at e
      obtain ⟨r1, r2, r3, r4⟩ := z_nm_rng dg
      by_cases lt : (z_nm g N (p + 1)).2 < 12
      · rw [if_pos lt] at e
        cases e
        obtain ⟨a1, a2⟩ := one ha
        exact ⟨by rw [l1]; exact z_W_lf a1 (by omega) (Or.inr (Or.inr ⟨rfl, by omega, by omega⟩)), by rw [z_ca_v, z_ca_0, if_neg (by omega)]; omega, by rw [l1]; omega, by omega⟩
      · rw [if_neg lt] at e; cases e
    · rw [if_neg dg] at e; cases e
  rw [if_neg x3] at e
  by_cases x4 : z_pk g N p = 102
  · rw [if_pos x4] at e
    by_cases dg : z_dg (z_pk g N (p + 1))
    · rw [if_pos dg] at e
      obtain ⟨r1, r2, r3, r4⟩ := z_nm_rng dg
      by_cases lt : (z_nm g N (p + 1)).2 < 12
      · rw [if_pos lt] at e
        obtain ⟨p1, c1, e1, e⟩ := z_bd_r e
        cases e
        obtain ⟨ha1, ⟨ha2, ha3⟩, -⟩ := (z_aq_app _ _ _).mp ha
        obtain ⟨w1, k1, l1, f1⟩ := z_WF_n ih 7 (by decide) (by decide) ho h0 (by show h ≤ 3 * o + 3; omega) e1 ha1
        have hl : ((c1 ++ [((4 : Int), (z_nm g N (p + 1)).2)]).length : Int) = c1.length + 1 := by rw [List.length_append]; rfl
        refine ⟨?_, ?_, by omega, f1⟩
        · rw [hl, show b + (c1.length + 1 : Int) = b + c1.length + 1 by omega]
          exact z_W_tr (by omega) (by omega) w1 (z_W_un ha2 (by omega) (Or.inl ⟨rfl, by omega, by omega⟩))
        · rw [z_ca_app, z_ca_v, z_ca_0, if_pos rfl]
          omega
      · rw [if_neg lt] at e; cases e
    · rw [if_neg dg] at e; cases e
  rw [if_neg x4] at e
  by_cases x5 : z_pk g N p = 120
  · rw [if_pos x5] at e
    cases e
    obtain ⟨a1, a2⟩ := one ha
    exact ⟨by rw [l1]; exact z_W_lf a1 (by omega) (Or.inr (Or.inl rfl)), by rw [z_ca_v, z_ca_0, if_neg (by omega)]; omega, by rw [l1]; omega, by omega⟩
  rw [if_neg x5] at e
  by_cases dg : z_dg (z_pk g N p)
  · rw [if_pos dg] at e
    obtain ⟨r1, r2, r3, r4⟩ := z_nm_rng dg
    cases e
    obtain ⟨a1, a2⟩ := one ha
    exact ⟨by rw [l1]; exact z_W_lf a1 (by omega) (Or.inl ⟨rfl, by omega, by omega⟩), by rw [z_ca_v, z_ca_0, if_neg (by omega)]; omega, by rw [l1]; omega, by omega⟩
  · rw [if_neg dg] at e; cases e
theorem z_WF_all : ∀ n, z_WF g N G n
  | 0 => fun k o b p h q cs hk ho h0 h1 e ha => by cases e
  | n + 1 => fun k o b p h q cs hk ho h0 h1 e ha => by
    have ih := z_WF_all n
    have up : ∀ w, ¬ (k = 5 ∨ k = 6) → z_wkk k = w → z_WN G w b p h q cs → z_WG G k b p h q cs := fun w h5 hw z => by
      obtain ⟨a1, a2, a3⟩ := z
      unfold z_WG
      rw [if_neg h5, hw, show h + (0 : Int) = h by omega]
      exact ⟨a1, a2, fun _ => a3⟩
    rcases (show k = 0 ∨ k = 1 ∨ k = 2 ∨ k = 3 ∨ k = 4 ∨ k = 5 ∨ k = 6 ∨ k = 7 by omega) with rfl | rfl | rfl | rfl | rfl | rfl | rfl | rfl
    · have h1 : h ≤ 3 * o + 0 := h1
      exact up 1 (by decide) rfl (z_WF_E ih ho h0 (by omega) e ha)
    · have h1 : h ≤ 3 * o + 0 := h1
      exact up 1 (by decide) rfl (z_WF_C ih ho h0 (by omega) e ha)
    · exact up 1 (by decide) rfl (z_WF_S ih ho h0 h1 e ha)
    · exact up 1 (by decide) rfl (z_WF_P ih ho h0 h1 e ha)
    · exact up 1 (by decide) rfl (z_WF_U ih ho h0 h1 e ha)
    · obtain ⟨a1, a2⟩ := z_WF_R ih ho h0 h1 e ha
      exact ⟨a1, a2, fun z => absurd (Or.inl rfl) z⟩
    · obtain ⟨a1, a2⟩ := z_WF_T ih ho h0 h1 e ha
      exact ⟨a1, a2, fun z => absurd (Or.inr rfl) z⟩
    · exact up 3 (by decide) rfl (z_WF_B ih ho h0 h1 e ha)
end WF2
