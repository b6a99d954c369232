/-! the class's reader: what a led chain leaves -/
theorem cf_la_ne {T : Int} : ∀ (r : List Int) (s : z_M) (a i : Int), ¬ a = 6 → cf_la T r s a i = s a i
  | [], _, _, _, _ => rfl
  | j :: r, s, a, i, h => by
    show cf_la T r (z_up s 6 j (16 * T + 6)) a i = s a i
    rw [cf_la_ne r _ a i h, z_up_ne (by omega)]
theorem cf_la_ge {T n : Int} {g : Int → Int} : ∀ (r : List Int) (l : Int) (s : z_M) (i : Int), z_ch g n l r → l ≤ i → cf_la T r s 6 i = s 6 i
  | [], _, _, _, _, _ => rfl
  | j :: r, l, s, i, ⟨h1, h2, l', h3, h4, h5⟩, h => by
    show cf_la T r (z_up s 6 j (16 * T + 6)) 6 i = s 6 i
    rw [cf_la_ge r l' _ i h5 (by omega), z_up_ne (by omega)]
/-- memories with the same words below have the same words below behind the leading -/
theorem cf_la_congr {T : Int} : ∀ (r : List Int) (s s' : z_M) (i : Int), s' 6 i = s 6 i → cf_la T r s' 6 i = cf_la T r s 6 i
  | [], _, _, _, h => h
  | j :: r, s, s', i, h => by
    show cf_la T r (z_up s' 6 j (16 * T + 6)) 6 i = cf_la T r (z_up s 6 j (16 * T + 6)) 6 i
    refine cf_la_congr r _ _ i ?_
    by_cases q : i = j
    · rw [q, z_up_eq, z_up_eq]
    · rw [z_up_ne (by omega), z_up_ne (by omega)]; exact h
theorem z_ch_n {g : Int → Int} {n n' : Int} (hn : n ≤ n') : ∀ (r : List Int) (l : Int), z_ch g n l r → z_ch g n' l r
  | [], _, h => h
  | j :: r, _, ⟨h1, h2, l', h3, h4, h5⟩ => ⟨h1, by omega, l', h3, h4, z_ch_n hn r l' h5⟩
/-- the loop of a choice, at a fuel -/
def z_CL (e : z_E) (c : z_M) (g : Int → Int) (N : Int) (n : Nat) : Prop := ∀ (o i b p l : Int) (r : List Int) (s : z_M) (d : Nat) (Q : Int → z_M → Prop), 8 * (N - p) + 7 ≤ (n : Int) → 8 * (N - p) + 7 + 19 ≤ (d : Int) → (0 ≤ o ∧ o ≤ 5) → (0 ≤ i ∧ 2 * i ≤ p) → (0 ≤ l ∧ l ≤ b) → z_CS g N s b p → z_ch (s 6) b l r → (∀ f s', z_ps g N n 0 o b p = some (.inl f) → z_CFr s s' → s' 3 3 = f → Q 0 (z_gl s' c)) → (∀ q cs s', z_ps g N n 0 o b p = some (.inr (q, cs)) → z_CS g N s' (b + cs.length) q → z_CFr s s' → s' 5 2 = s 5 2 + z_cz cs → z_aw (s' 6) b cs → (∀ j, j < b → s' 6 j = cf_la (b + cs.length) r s 6 j) → Q 1 (z_gl s' c)) → z_T e d m_R_readChoice 4 [some (z_R 3), some (z_I o), some (z_I l), some (z_I i), none] (z_gl s c) Q
