/-! what is read hangs on the tape alone -/
theorem z_aq_ex (g : Int → Int) : ∀ (cs : z_Cd) (b : Int), ∃ G, z_aq G b cs ∧ ∀ i, i < 2 * b ∨ 2 * (b + cs.length) ≤ i → G i = g i
  | [], b => ⟨g, trivial, fun _ _ => rfl⟩
  | (x, y) :: r, b => by
    obtain ⟨G, h1, h2⟩ := z_aq_ex g r (b + 1)
    have u : ∀ i, ¬ i = 2 * b → ¬ i = 2 * b + 1 → (if i = 2 * b then x else if i = 2 * b + 1 then y else G i) = G i := fun i z1 z2 => by rw [if_neg z1, if_neg z2]
    refine ⟨fun i => if i = 2 * b then x else if i = 2 * b + 1 then y else G i, ⟨⟨if_pos rfl, ?_⟩, z_aq_congr r (b + 1) (fun i z1 z2 => u i (by omega) (by omega)) h1⟩, fun i z => ?_⟩
    · show (if 2 * b + 1 = 2 * b then x else if 2 * b + 1 = 2 * b + 1 then y else G (2 * b + 1)) = y
      rw [if_neg (by omega), if_pos rfl]
    · rw [List.length_cons] at z
      show (if i = 2 * b then x else if i = 2 * b + 1 then y else G i) = g i
      rw [u i (by omega) (by omega)]
      exact h2 i (by omega)
theorem z_aq_un {g g' : Int → Int} : ∀ (cs : z_Cd) (b : Int), z_aq g b cs → z_aq g' b cs → ∀ i, 2 * b ≤ i → i < 2 * (b + cs.length) → g' i = g i
  | [], b, _, _, i, h1, h2 => by
    have h2 : i < 2 * (b + ((0 : Nat) : Int)) := h2
    omega
  | (x, y) :: r, b, ⟨⟨a1, a2⟩, a3⟩, ⟨⟨b1, b2⟩, b3⟩, i, h1, h2 => by
    rw [List.length_cons] at h2
    by_cases q : i = 2 * b
    · rw [q, a1, b1]
    · by_cases q2 : i = 2 * b + 1
      · rw [q2, a2, b2]
      · exact z_aq_un r (b + 1) a3 b3 i (by omega) (by omega)
theorem z_ca_nn : ∀ c : z_Cd, 0 ≤ z_ca c
  | [] => Int.le_refl _
  | (x, y) :: r => by
    have := z_ca_nn r
    rw [z_ca_v]
    split <;> omega
section CGG
variable {g g' G : Int → Int} {N : Int}
theorem z_ps_le {n k : Nat} {o b p q : Int} {cs : z_Cd} (hk : k < 8) (ho : 0 ≤ o ∧ o ≤ 5) (e : z_ps g N n k o b p = some (.inr (q, cs))) : p ≤ q := by
  obtain ⟨G, ha, -⟩ := z_aq_ex (fun _ => 0) cs b
  have h1 := (z_WF_all (G := G) n k o b p 0 q cs hk ho.2 (Int.le_refl _) (by unfold z_dk; repeat' split
                                                                             all_goals omega) e ha).2.1
  have h2 := z_ca_nn cs
  have h3 : 0 ≤ z_wkk k := by
    unfold z_wkk
    repeat' split
    all_goals omega
  omega
theorem z_bd_cg {x x' : z_Pr} {f f' : Int → z_Cd → z_Pr} (hx : x' = x) (hf : ∀ q c, x = some (.inr (q, c)) → f' q c = f q c) : z_bd x' f' = z_bd x f := by
  subst hx
  match x', hf with
  | none, _ => rfl
  | some (.inl _), _ => rfl
  | some (.inr (q, c)), hf => exact hf q c rfl
theorem z_if_cg {c : Prop} [Decidable c] {a a' b b' : z_Pr} (h1 : c → a' = a) (h2 : ¬ c → b' = b) : (if c then a' else b') = if c then a else b := by
  by_cases q : c
  · rw [if_pos q, if_pos q]; exact h1 q
  · rw [if_neg q, if_neg q]; exact h2 q
theorem z_ps_cg (hg : ∀ i, 0 ≤ i → i < N → g' i = g i) : ∀ (n k : Nat) (o b p : Int), k < 8 → 0 ≤ o ∧ o ≤ 5 → 0 ≤ p → z_ps g' N n k o b p = z_ps g N n k o b p
  | 0, k, o, b, p, hk, ho, hp => rfl
  | n + 1, k, o, b, p, hk, ho, hp => by
    have pk : ∀ p, 0 ≤ p → z_pk g' N p = z_pk g N p := fun p hp => by
      unfold z_pk
      by_cases q : p < N
      · rw [if_pos q, if_pos q, hg p hp q]
      · rw [if_neg q, if_neg q]
    have nm : ∀ p, 0 ≤ p → z_nm g' N p = z_nm g N p := fun p hp => by
      unfold z_nm
      rw [pk p hp, pk (p + 1) (by omega)]
    have ih := z_ps_cg hg n
    have dn : ∀ {p q : Int}, z_dg (z_pk g N p) → 0 ≤ p → q = (z_nm g N p).1 → 0 ≤ q := fun d h e => by have := (z_nm_rng d).1; omega
    rcases (show k = 0 ∨ k = 1 ∨ k = 2 ∨ k = 3 ∨ k = 4 ∨ k = 5 ∨ k = 6 ∨ k = 7 by omega) with rfl | rfl | rfl | rfl | rfl | rfl | rfl | rfl
    · rw [z_ps_E, z_ps_E]
      refine z_bd_cg (ih 1 o b p (by omega) ho hp) (fun p1 c1 e1 => ?_)
      have l1 := z_ps_le (by omega) ho e1
      rw [pk p1 (by omega)]
      refine z_if_cg (fun x1 => z_if_cg (fun _ => rfl) (fun o5 => z_bd_cg (ih 0 _ _ _ (by omega) (by omega) (by omega)) (fun p2 c2 e2 => ?_))) (fun _ => rfl)
      have l2 := z_ps_le (by omega) (by omega) e2
      rw [pk p2 (by omega)]
      exact z_if_cg (fun x2 => z_bd_cg (ih 0 _ _ _ (by omega) (by omega) (by omega)) (fun p3 c3 e3 => rfl)) (fun _ => rfl)
    · rw [z_ps_C, z_ps_C]
      refine z_bd_cg (ih 2 o b p (by omega) ho hp) (fun p1 c1 e1 => ?_)
      have l1 := z_ps_le (by omega) ho e1
      rw [pk p1 (by omega)]
      exact z_if_cg (fun x1 => z_bd_cg (ih 2 _ _ _ (by omega) (by omega) (by omega)) (fun p3 c3 e3 => rfl)) (fun _ => rfl)
    · rw [z_ps_S, z_ps_S]
      refine z_bd_cg (ih 3 o b p (by omega) ho hp) (fun p1 c1 e1 => ?_)
      have l1 := z_ps_le (by omega) ho e1
      exact z_bd_cg (ih 5 _ _ _ (by omega) (by omega) (by omega)) (fun p3 c3 e3 => rfl)
    · rw [z_ps_P, z_ps_P]
      refine z_bd_cg (ih 4 o b p (by omega) ho hp) (fun p1 c1 e1 => ?_)
      have l1 := z_ps_le (by omega) ho e1
      exact z_bd_cg (ih 6 _ _ _ (by omega) (by omega) (by omega)) (fun p3 c3 e3 => rfl)
    · rw [z_ps_U, z_ps_U, pk p hp, pk (p + 1) (by omega), nm p hp, nm (p + 1) (by omega)]
      refine z_if_cg (fun _ => ih 7 _ _ _ (by omega) ho hp) (fun _ => z_if_cg (fun _ => z_if_cg (fun _ => rfl) (fun o5 => z_bd_cg (ih 4 _ _ _ (by omega) (by omega) (by omega)) (fun _ _ _ => rfl))) (fun _ => z_if_cg (fun _ => rfl) (fun _ => z_if_cg (fun _ => z_if_cg (fun dg => z_if_cg (fun _ => z_bd_cg (ih 7 _ _ _ (by omega) ho (dn dg (by omega) rfl)) (fun _ _ _ => rfl)) (fun _ => rfl)) (fun _ => rfl)) (fun _ => rfl))))
    · rw [z_ps_R, z_ps_R, pk p hp]
      refine z_if_cg (fun _ => z_bd_cg (ih 3 _ _ _ (by omega) ho (by omega)) (fun p1 c1 e1 => ?_)) (fun _ => rfl)
      have l1 := z_ps_le (by omega) ho e1
      exact z_bd_cg (ih 5 _ _ _ (by omega) (by omega) (by omega)) (fun p3 c3 e3 => rfl)
    · rw [z_ps_T, z_ps_T, pk p hp]
      refine z_if_cg (fun _ => z_bd_cg (ih 4 _ _ _ (by omega) ho (by omega)) (fun p1 c1 e1 => ?_)) (fun _ => rfl)
      have l1 := z_ps_le (by omega) ho e1
      exact z_bd_cg (ih 6 _ _ _ (by omega) (by omega) (by omega)) (fun p3 c3 e3 => rfl)
    · rw [z_ps_B, z_ps_B, pk p hp]
      refine z_if_cg (fun _ => z_if_cg (fun _ => rfl) (fun o5 => z_bd_cg (ih 0 _ _ _ (by omega) (by omega) (by omega)) (fun p1 c1 e1 => ?_))) (fun _ => rfl)
      have l1 := z_ps_le (by omega) (by omega) e1
      rw [pk p1 (by omega)]
end CGG
/-! the new text stands well -/
theorem z_nc_fr {g : Int → Int} : ∀ (n : Nat) (b : Int), z_nc g b (n + 1) = (if g b = 4 then 1 else 0) + z_nc g (b + 2) n
  | 0, b => by
    show 0 + (if g (b + 2 * ((0 : Nat) : Int)) = 4 then (1 : Int) else 0) = (if g b = 4 then 1 else 0) + 0
    rw [show b + 2 * ((0 : Nat) : Int) = b by omega]
    omega
  | n + 1, b => by
    show z_nc g b (n + 1) + (if g (b + 2 * ((n + 1 : Nat) : Int)) = 4 then (1 : Int) else 0) = (if g b = 4 then 1 else 0) + (z_nc g (b + 2) n + (if g (b + 2 + 2 * ((n : Nat) : Int)) = 4 then (1 : Int) else 0))
    rw [z_nc_fr n b, show b + 2 * ((n + 1 : Nat) : Int) = b + 2 + 2 * ((n : Nat) : Int) by omega]
    omega
theorem z_nc_ca {g G : Int → Int} : ∀ (cs : z_Cd) (b c : Int), z_aq G b cs → (∀ i : Int, 0 ≤ i → i < 2 * cs.length → g (c + i) = G (2 * b + i)) → z_nc g c cs.length = z_ca cs
  | [], _, _, _, _ => rfl
  | (x, y) :: r, b, c, ⟨⟨h1, h2⟩, h3⟩, hg => by
    rw [List.length_cons] at hg ⊢
    have e0 := hg 0 (by omega) (by omega)
    rw [Int.add_zero, Int.add_zero, h1] at e0
    rw [z_nc_fr, z_ca_v, e0, z_nc_ca r (b + 1) (c + 2) h3 (fun i i0 i1 => by
      have := hg (i + 2) (by omega) (by omega)
      rw [show c + 2 + i = c + (i + 2) by omega, show 2 * (b + 1) + i = 2 * b + (i + 2) by omega]
      exact this)]
theorem z_cwo {G H : Int → Int} : ∀ (cs : z_Cd) (b : Int), z_aq G b cs → z_aw H b cs → ∀ i, b ≤ i → i < b + cs.length → H i = z_cc (G (2 * i)) (G (2 * i + 1))
  | [], b, _, _, i, h1, h2 => by
    have h2 : i < b + ((0 : Nat) : Int) := h2
    omega
  | (x, y) :: r, b, ⟨⟨a1, a2⟩, a3⟩, ⟨b1, b2⟩, i, h1, h2 => by
    rw [List.length_cons] at h2
    by_cases q : i = b
    · rw [q, a1, a2, b1]
    · exact z_cwo r (b + 1) a3 b2 i (by omega) (by omega)
theorem z_TI_nw {g G : Int → Int} {N R : Int} {n : Nat} {cs : z_Cd} {t : z_M} (e : z_ps g N n 0 0 0 0 = some (.inr (N, cs))) (hN : N ≤ 100) (hL : (cs.length : Int) ≤ 100) (ha : z_aq G 0 cs) (h5 : t 705 R = 2 * cs.length) (h4 : ∀ i : Int, 0 ≤ i → i < 2 * cs.length → t 704 (400 * R + i) = G i) : z_TI t R := by
  obtain ⟨⟨D, d0, dE, dr, dw⟩, k, l, f⟩ := z_WF_n (z_WF_all n) 0 (by decide) (by decide) (by omega) (Int.le_refl _) (by decide) e ha
  have hw : z_wkk 0 = 1 := rfl
  rw [show (0 : Int) + cs.length = cs.length by omega] at dE dr dw
  refine ⟨by omega, by omega, by omega, fun _ => ⟨?_, ?_, fun p => D (p / 2), ?_, ?_, fun p p0 p1 => ?_, fun p p0 p1 p2 => ?_⟩⟩
  · have := h4 0 (by omega) (by omega)
    rw [Int.add_zero] at this
    rw [this]; exact f
  · rw [h5, show ((2 * (cs.length : Int)) / 2).toNat = cs.length by omega, z_nc_ca cs 0 (400 * R) ha (fun i i0 i1 => by rw [h4 i i0 i1, show 2 * (0 : Int) + i = i by omega])]
    omega
  · show D (0 / 2) = 0
    rw [show (0 : Int) / 2 = 0 by omega]; exact d0
  · show D (t 705 R / 2) = 1
    rw [h5, show (2 * (cs.length : Int)) / 2 = cs.length by omega]; exact dE
  · exact dr (p / 2) (by omega) (by omega)
  · have w := dw (p / 2) (by omega) (by omega)
    rw [show 2 * (p / 2) = p by omega] at w
    unfold z_wo at w
    unfold z_TO
    rw [h4 p p0 (by omega), show 400 * R + p + 1 = 400 * R + (p + 1) by omega, h4 (p + 1) (by omega) (by omega)]
    dsimp only
    rw [show (p + 2) / 2 = p / 2 + 1 by omega]
    rcases w with h | h | h | h | h | h | ⟨a1, a2, T, a3, a4, a5, a6, a7, a8, a9⟩ | ⟨a1, T, a2, a3, a4, a5⟩
    · exact Or.inl h
    · exact Or.inr (Or.inl h)
    · exact Or.inr (Or.inr (Or.inl h))
    · exact Or.inr (Or.inr (Or.inr (Or.inl h)))
    · exact Or.inr (Or.inr (Or.inr (Or.inr (Or.inl ⟨h.1, h.2.1, h.2.2.1, h.2.2.2⟩))))
    · exact Or.inr (Or.inr (Or.inr (Or.inr (Or.inr (Or.inl h)))))
    · refine Or.inr (Or.inr (Or.inr (Or.inr (Or.inr (Or.inr (Or.inl ⟨a1, a2, by omega, by omega, by omega, a6, ?_, ?_, ?_⟩))))))
      · rw [a3, show 2 * T / 2 = T by omega]; exact a7
      · rw [h4 (p + 2) (by omega) (by omega), show p + 2 = 2 * (p / 2 + 1) by omega]; exact a8
      · rw [h4 _ (by omega) (by omega), a3]; exact a9
    · refine Or.inr (Or.inr (Or.inr (Or.inr (Or.inr (Or.inr (Or.inr ⟨a1, by omega, by omega, by omega, ?_⟩))))))
      rw [a2, show 2 * T / 2 = T by omega]; exact a5
