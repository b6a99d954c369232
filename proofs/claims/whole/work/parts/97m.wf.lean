/-! texts that are read stand well: depths -/
def z_wo (G D : Int → Int) (E i op ar : Int) : Prop :=
  (op = 1 ∧ 0 ≤ ar ∧ ar ≤ 99 ∧ D (i + 1) = D i + 1 ∧ D i ≤ 18) ∨ (op = 2 ∧ D (i + 1) = D i + 1 ∧ D i ≤ 18) ∨ (op = 3 ∧ 0 ≤ ar ∧ ar ≤ 11 ∧ D (i + 1) = D i + 1 ∧ D i ≤ 18) ∨ (op = 4 ∧ 0 ≤ ar ∧ ar ≤ 11 ∧ 1 ≤ D i ∧ D (i + 1) = D i) ∨ (5 ≤ op ∧ op ≤ 10 ∧ 2 ≤ D i ∧ D (i + 1) = D i - 1) ∨ (op = 11 ∧ 1 ≤ D i ∧ D (i + 1) = D i) ∨ (op = 12 ∧ 1 ≤ D i ∧ ∃ T, ar = 2 * T ∧ i + 1 < T ∧ T < E ∧ D (i + 1) = D i - 1 ∧ D T = D i - 1 ∧ ¬ G (2 * (i + 1)) = 13 ∧ ¬ G (2 * T) = 13) ∨ (op = 13 ∧ ∃ T, ar = 2 * T ∧ i < T ∧ T ≤ E ∧ D T = D i)
theorem z_wo_c {G D D' : Int → Int} {E E' i op ar : Int} (hD : ∀ j, i ≤ j → j ≤ E → D' j = D j) (hE : E ≤ E') (hi : i < E) (h : z_wo G D E i op ar) : z_wo G D' E' i op ar := by
  have h0 : D' i = D i := hD i (by omega) (by omega)
  have h1 : D' (i + 1) = D (i + 1) := hD _ (by omega) (by omega)
  unfold z_wo at h ⊢
  rw [h0, h1]
  rcases h with h | h | h | h | h | h | ⟨a1, a2, T, a3, a4, a5, a6, a7, a8, a9⟩ | ⟨a1, T, a2, a3, a4, a5⟩
  · exact Or.inl h
  · exact Or.inr (Or.inl h)
  · exact Or.inr (Or.inr (Or.inl h))
  · exact Or.inr (Or.inr (Or.inr (Or.inl h)))
  · exact Or.inr (Or.inr (Or.inr (Or.inr (Or.inl h))))
  · exact Or.inr (Or.inr (Or.inr (Or.inr (Or.inr (Or.inl h)))))
  · exact Or.inr (Or.inr (Or.inr (Or.inr (Or.inr (Or.inr (Or.inl ⟨a1, a2, T, a3, a4, by omega, a6, by rw [hD T (by omega) (by omega)]; exact a7, a8, a9⟩))))))
  · exact Or.inr (Or.inr (Or.inr (Or.inr (Or.inr (Or.inr (Or.inr ⟨a1, T, a2, a3, by omega, by rw [hD T (by omega) (by omega)]; exact a5⟩))))))
/-- codes from b to E: the depth goes from h to h' -/
def z_W (G : Int → Int) (b E h h' : Int) : Prop := ∃ D : Int → Int, D b = h ∧ D E = h' ∧ (∀ i, b ≤ i → i ≤ E → 0 ≤ D i ∧ D i ≤ 19) ∧ ∀ i, b ≤ i → i < E → z_wo G D E i (G (2 * i)) (G (2 * i + 1))
theorem z_W_0 {G : Int → Int} {b h : Int} (h0 : 0 ≤ h) (h1 : h ≤ 19) : z_W G b b h h := ⟨fun _ => h, rfl, rfl, fun _ _ _ => ⟨h0, h1⟩, fun i x y => by omega⟩
theorem z_W_tr {G : Int → Int} {b m E h h1 h2 : Int} (hb : b ≤ m) (hm : m ≤ E) (w1 : z_W G b m h h1) (w2 : z_W G m E h1 h2) : z_W G b E h h2 := by
  obtain ⟨D1, a1, a2, a3, a4⟩ := w1
  obtain ⟨D2, b1, b2, b3, b4⟩ := w2
  have u1 : ∀ i, i ≤ m → (fun i => if i ≤ m then D1 i else D2 i) i = D1 i := fun i x => if_pos x
  have u2 : ∀ i, m ≤ i → (fun i => if i ≤ m then D1 i else D2 i) i = D2 i := fun i x => by
    by_cases q : i = m
    · subst q; rw [u1 i (Int.le_refl _), a2, b1]
    · exact if_neg (by omega)
  refine ⟨fun i => if i ≤ m then D1 i else D2 i, by rw [u1 b hb]; exact a1, by rw [u2 E hm]; exact b2, fun i x y => ?_, fun i x y => ?_⟩
  · by_cases q : i ≤ m
    · rw [u1 i q]; exact a3 i x q
    · rw [u2 i (by omega)]; exact b3 i (by omega) y
  · by_cases q : i < m
    · exact z_wo_c (fun j z1 z2 => u1 j z2) hm q (a4 i x q)
    · exact z_wo_c (fun j z1 z2 => u2 j (by omega)) (Int.le_refl _) y (b4 i (by omega) y)
theorem z_W_one {G : Int → Int} {b h h' op ar : Int} (g1 : G (2 * b) = op) (g2 : G (2 * b + 1) = ar) (h0 : 0 ≤ h ∧ h ≤ 19) (h1 : 0 ≤ h' ∧ h' ≤ 19) (hw : ∀ D : Int → Int, D b = h → D (b + 1) = h' → z_wo G D (b + 1) b op ar) : z_W G b (b + 1) h h' := by
  have u1 : (fun i => if i ≤ b then h else h') b = h := if_pos (Int.le_refl _)
  have u2 : (fun i => if i ≤ b then h else h') (b + 1) = h' := if_neg (by omega)
  refine ⟨fun i => if i ≤ b then h else h', u1, u2, fun i x y => ?_, fun i x y => ?_⟩
  · show 0 ≤ (if i ≤ b then h else h') ∧ (if i ≤ b then h else h') ≤ 19
    split <;> omega
  · obtain rfl : i = b := by omega
    rw [g1, g2]
    exact hw _ u1 u2
theorem z_W_ch {G : Int → Int} {b m1 m2 E h : Int} (w1 : z_W G b m1 h (h + 1)) (w2 : z_W G (m1 + 1) m2 h (h + 1)) (w3 : z_W G (m2 + 1) E h (h + 1)) (g1 : G (2 * m1) = 12 ∧ G (2 * m1 + 1) = 2 * (m2 + 1)) (g2 : G (2 * m2) = 13 ∧ G (2 * m2 + 1) = 2 * E) (hb : b ≤ m1) (hm : m1 < m2) (hE : m2 + 1 < E) (n1 : ¬ G (2 * (m1 + 1)) = 13) (n2 : ¬ G (2 * (m2 + 1)) = 13) : z_W G b E h (h + 1) := by
  obtain ⟨D1, a1, a2, a3, a4⟩ := w1
  obtain ⟨D2, b1, b2, b3, b4⟩ := w2
  obtain ⟨D3, c1, c2, c3, c4⟩ := w3
  have u1 : ∀ i, i ≤ m1 → (fun i => if i ≤ m1 then D1 i else if i ≤ m2 then D2 i else D3 i) i = D1 i := fun i x => if_pos x
  have u2 : ∀ i, m1 < i → i ≤ m2 → (fun i => if i ≤ m1 then D1 i else if i ≤ m2 then D2 i else D3 i) i = D2 i := fun i x y => (if_neg (by omega)).trans (if_pos y)
  have u3 : ∀ i, m2 < i → (fun i => if i ≤ m1 then D1 i else if i ≤ m2 then D2 i else D3 i) i = D3 i := fun i x => (if_neg (by omega)).trans (if_neg (by omega))
  refine ⟨fun i => if i ≤ m1 then D1 i else if i ≤ m2 then D2 i else D3 i, by rw [u1 b hb]; exact a1, by rw [u3 E (by omega)]; exact c2, fun i x y => ?_, fun i x y => ?_⟩
  · by_cases q : i ≤ m1
    · rw [u1 i q]; exact a3 i x q
    · by_cases q2 : i ≤ m2
      · rw [u2 i (by omega) q2]; exact b3 i (by omega) q2
      · rw [u3 i (by omega)]; exact c3 i (by omega) y
  · by_cases q : i < m1
    · exact z_wo_c (fun j z1 z2 => u1 j z2) (by omega) q (a4 i x q)
    · by_cases q1 : i = m1
      · subst q1
        rw [g1.1, g1.2]
        unfold z_wo
        rw [u1 i (Int.le_refl _), u2 (i + 1) (by omega) (by omega), a2, b1]
        have := (a3 i hb (Int.le_refl _)).1
        have := (b3 (i + 1) (by omega) (by omega)).1
        exact Or.inr (Or.inr (Or.inr (Or.inr (Or.inr (Or.inr (Or.inl ⟨rfl, by omega, m2 + 1, rfl, by omega, hE, by omega, by rw [u3 _ (by omega), c1]; omega, n1, n2⟩))))))
      · by_cases q2 : i < m2
        · exact z_wo_c (fun j z1 z2 => u2 j (by omega) z2) (by omega) q2 (b4 i (by omega) q2)
        · by_cases q3 : i = m2
          · subst q3
            rw [g2.1, g2.2]
            unfold z_wo
            exact Or.inr (Or.inr (Or.inr (Or.inr (Or.inr (Or.inr (Or.inr ⟨rfl, E, rfl, by omega, Int.le_refl _, by rw [u3 E (by omega), u2 i (by omega) (by omega), b2, c2]⟩))))))
          · exact z_wo_c (fun j z1 z2 => u3 j (by omega)) (Int.le_refl _) y (c4 i (by omega) y)
/-- calls of a text -/
def z_ca : z_Cd → Int
  | [] => 0
  | (x, _) :: r => (if x = 4 then 1 else 0) + z_ca r
theorem z_ca_app : ∀ (c1 c2 : z_Cd), z_ca (c1 ++ c2) = z_ca c1 + z_ca c2
  | [], c2 => by rw [List.nil_append]; show z_ca c2 = 0 + z_ca c2; omega
  | (x, y) :: r, c2 => by
    show (if x = 4 then (1 : Int) else 0) + z_ca (r ++ c2) = (if x = 4 then (1 : Int) else 0) + z_ca r + z_ca c2
    rw [z_ca_app r c2]; omega
theorem z_bd_r {x : z_Pr} {f : Int → z_Cd → z_Pr} {w : Int × z_Cd} (h : z_bd x f = some (.inr w)) : ∃ q c, x = some (.inr (q, c)) ∧ f q c = some (.inr w) := by
  rcases z_bd_some h with ⟨q, -, h2⟩ | h2
  · cases h2
  · exact h2
def z_dk (k : Nat) : Int := if k = 0 then 0 else if k = 1 then 0 else if k = 2 then 1 else if k = 3 then 2 else if k = 5 then 1 else if k = 6 then 2 else 3
def z_wkk (k : Nat) : Int := if k = 5 ∨ k = 6 then 0 else if k = 7 then 3 else 1
/-- a part stands well -/
def z_WG (G : Int → Int) (k : Nat) (b p h q : Int) (cs : z_Cd) : Prop := z_W G b (b + cs.length) (h + (if k = 5 ∨ k = 6 then 1 else 0)) (h + 1) ∧ 4 * z_ca cs + z_wkk k ≤ q - p ∧ (¬ (k = 5 ∨ k = 6) → 1 ≤ (cs.length : Int) ∧ ¬ G (2 * b) = 13)
def z_WF (g : Int → Int) (N : Int) (G : Int → Int) (n : Nat) : Prop := ∀ (k : Nat) (o b p h q : Int) (cs : z_Cd), k < 8 → o ≤ 5 → 0 ≤ h → h ≤ 3 * o + z_dk k → z_ps g N n k o b p = some (.inr (q, cs)) → z_aq G b cs → z_WG G k b p h q cs
section WF
variable {g G : Int → Int} {N o b p h q : Int} {cs : z_Cd} {n : Nat}
/-- the parts that aren't rests -/
theorem z_WF_n (ih : z_WF g N G n) (k : Nat) (hk : k < 8) (h5 : ¬ (k = 5 ∨ k = 6)) (ho : o ≤ 5) (h0 : 0 ≤ h) (h1 : h ≤ 3 * o + z_dk k) (e : z_ps g N n k o b p = some (.inr (q, cs))) (ha : z_aq G b cs) : z_W G b (b + cs.length) h (h + 1) ∧ 4 * z_ca cs + z_wkk k ≤ q - p ∧ 1 ≤ (cs.length : Int) ∧ ¬ G (2 * b) = 13 := by
  obtain ⟨a1, a2, a3⟩ := ih k o b p h q cs hk ho h0 h1 e ha
  rw [if_neg h5, show h + (0 : Int) = h by omega] at a1
  exact ⟨a1, a2, a3 h5⟩
theorem z_WF_r (ih : z_WF g N G n) (k : Nat) (h5 : k = 5 ∨ k = 6) (ho : o ≤ 5) (h0 : 0 ≤ h) (h1 : h ≤ 3 * o + z_dk k) (e : z_ps g N n k o b p = some (.inr (q, cs))) (ha : z_aq G b cs) : z_W G b (b + cs.length) (h + 1) (h + 1) ∧ 4 * z_ca cs ≤ q - p := by
  obtain ⟨a1, a2, -⟩ := ih k o b p h q cs (by omega) ho h0 h1 e ha
  rw [if_pos h5] at a1
  unfold z_wkk at a2
  rw [if_pos h5] at a2
  exact ⟨a1, by omega⟩
end WF
