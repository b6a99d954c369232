/-! what a part of a text leaves behind, in the reference -/
def z_aq (g : Int → Int) : Int → z_Cd → Prop
  | _, [] => True
  | b, (x, y) :: r => (g (2 * b) = x ∧ g (2 * b + 1) = y) ∧ z_aq g (b + 1) r
def z_cz : z_Cd → Int
  | [] => 0
  | (x, _) :: r => (if x = 13 then 0 else 1) + z_cz r
theorem z_aq_app {g : Int → Int} : ∀ (c1 c2 : z_Cd) (b : Int), z_aq g b (c1 ++ c2) ↔ z_aq g b c1 ∧ z_aq g (b + c1.length) c2
  | [], c2, b => by
    rw [List.nil_append]
    show z_aq g b c2 ↔ True ∧ z_aq g (b + ((0 : Nat) : Int)) c2
    rw [show b + ((0 : Nat) : Int) = b by omega]
    exact ⟨fun h => ⟨trivial, h⟩, fun h => h.2⟩
  | (x, y) :: r, c2, b => by
    show (_ ∧ z_aq g (b + 1) (r ++ c2)) ↔ (_ ∧ z_aq g (b + 1) r) ∧ _
    rw [z_aq_app r c2 (b + 1), List.length_cons, show b + ((r.length + 1 : Nat) : Int) = b + 1 + (r.length : Int) by omega]
    exact ⟨fun h => ⟨⟨h.1, h.2.1⟩, h.2.2⟩, fun h => ⟨h.1.1, h.1.2, h.2⟩⟩
theorem z_aq_congr {g g' : Int → Int} : ∀ (c : z_Cd) (b : Int), (∀ i, 2 * b ≤ i → i < 2 * (b + c.length) → g' i = g i) → z_aq g b c → z_aq g' b c
  | [], b, _, _ => trivial
  | (x, y) :: r, b, h, ⟨⟨h1, h2⟩, h3⟩ => by
    rw [List.length_cons] at h
    exact ⟨⟨by rw [h _ (by omega) (by omega)]; exact h1, by rw [h _ (by omega) (by omega)]; exact h2⟩, z_aq_congr r (b + 1) (fun i a b => h i (by omega) (by omega)) h3⟩
theorem z_cz_app : ∀ (c1 c2 : z_Cd), z_cz (c1 ++ c2) = z_cz c1 + z_cz c2
  | [], c2 => by rw [List.nil_append]; show z_cz c2 = 0 + z_cz c2; omega
  | (x, y) :: r, c2 => by
    show (if x = 13 then (0 : Int) else 1) + z_cz (r ++ c2) = (if x = 13 then (0 : Int) else 1) + z_cz r + z_cz c2
    rw [z_cz_app r c2]; omega
theorem z_cz_rng : ∀ (c : z_Cd), 0 ≤ z_cz c ∧ z_cz c ≤ c.length
  | [] => ⟨Int.le_refl _, Int.le_refl _⟩
  | (x, y) :: r => by
    have := z_cz_rng r
    show 0 ≤ (if x = 13 then (0 : Int) else 1) + z_cz r ∧ (if x = 13 then (0 : Int) else 1) + z_cz r ≤ ((r.length + 1 : Nat) : Int)
    split <;> omega
/-- where a reader stands -/
def z_PS (g : Int → Int) (N : Int) (t : z_M) (o b p : Int) : Prop := (t 701 2 = N ∧ ∀ i, t 703 i = g i) ∧ (0 ≤ N ∧ N ≤ 100) ∧ (t 701 8 = p ∧ 0 ≤ p ∧ p ≤ N) ∧ t 701 9 = -1 ∧ (t 701 10 = o ∧ 0 ≤ o ∧ o ≤ 5) ∧ (t 701 6 = 2 * b ∧ 0 ≤ b ∧ b ≤ p) ∧ 0 ≤ t 701 7 ∧ t 701 7 ≤ b
/-- nothing but the reader's own changes -/
def z_PF (t t' : z_M) : Prop := ∀ a i, ¬ a = 706 → ¬ (a = 701 ∧ 6 ≤ i ∧ i ≤ 10) → t' a i = t a i
theorem z_PF_rf {t : z_M} : z_PF t t := fun _ _ _ _ => rfl
theorem z_PF_tr {t t1 t2 : z_M} (h : z_PF t t1) (h2 : z_PF t1 t2) : z_PF t t2 := fun a i x y => by rw [h2 a i x y, h a i x y]
theorem z_PF_up {t : z_M} {i v : Int} (h : 6 ≤ i ∧ i ≤ 10) : z_PF t (z_up t 701 i v) := fun a j x y => z_up_ne (by omega)
theorem z_PF_u6 {t : z_M} {i v : Int} : z_PF t (z_up t 706 i v) := fun a j x y => z_up_ne (by omega)
/-- a part is read -/
def z_PG (g : Int → Int) (N : Int) (t t' : z_M) (o b q : Int) (cs : z_Cd) : Prop := z_PS g N t' o (b + cs.length) q ∧ z_PF t t' ∧ t' 701 7 = t 701 7 + z_cz cs ∧ (∀ i, i < 2 * b → t' 706 i = t 706 i) ∧ z_aq (t' 706) b cs ∧ ∀ i, 2 * (b + cs.length) ≤ i → t' 706 i = t 706 i
section PG
variable {g : Int → Int} {N : Int} {t t1 t2 : z_M} {o o1 o2 b p q q1 q2 : Int} {c1 c2 : z_Cd}
theorem z_PG_tr (h : z_PG g N t t1 o1 b q1 c1) (h2 : z_PG g N t1 t2 o2 (b + c1.length) q2 c2) : z_PG g N t t2 o2 b q2 (c1 ++ c2) := by
  obtain ⟨a1, a2, a3, a4, a5, a6⟩ := h
  obtain ⟨b1, b2, b3, b4, b5, b6⟩ := h2
  refine ⟨?_, z_PF_tr a2 b2, by rw [z_cz_app]; omega, fun i hi => by rw [b4 i (by omega)]; exact a4 i hi, (z_aq_app _ _ _).mpr ⟨z_aq_congr c1 b (fun i _ hi => b4 i hi) a5, b5⟩, fun i hi => by rw [List.length_append] at hi; rw [b6 i (by omega)]; exact a6 i (by omega)⟩
  rw [List.length_append, show b + ((c1.length + c2.length : Nat) : Int) = b + (c1.length : Int) + (c2.length : Int) by omega]
  exact b1
theorem z_PG_mv (h : z_PS g N t o b p) (h1 : p ≤ q) (h2 : q ≤ N) : z_PG g N t (z_up t 701 8 q) o b q [] := by
  obtain ⟨⟨a1, a2⟩, a3, a4, a5, a6, a7, a8⟩ := h
  have u : ∀ a i, ¬ (a = 701 ∧ i = 8) → z_up t 701 8 q a i = t a i := fun a i x => z_up_ne (by omega)
  refine ⟨?_, z_PF_up (by omega), by rw [u _ _ (by omega)]; show t 701 7 = t 701 7 + 0; omega, fun i _ => u _ _ (by omega), trivial, fun i _ => u _ _ (by omega)⟩
  show z_PS g N _ o (b + ((0 : Nat) : Int)) q
  unfold z_PS
  rw [u 701 2 (by omega), z_up_eq, u 701 9 (by omega), u 701 10 (by omega), u 701 6 (by omega), u 701 7 (by omega)]
  exact ⟨⟨a1, fun i => by rw [u _ _ (by omega)]; exact a2 i⟩, a3, ⟨rfl, by omega, h2⟩, a5, a6, by omega, by omega⟩
theorem z_PG_op (h : z_PS g N t o b p) (h1 : 0 ≤ o1 ∧ o1 ≤ 5) : z_PG g N t (z_up t 701 10 o1) o1 b p [] := by
  obtain ⟨⟨a1, a2⟩, a3, a4, a5, a6, a7, a8⟩ := h
  have u : ∀ a i, ¬ (a = 701 ∧ i = 10) → z_up t 701 10 o1 a i = t a i := fun a i x => z_up_ne (by omega)
  refine ⟨?_, z_PF_up (by omega), by rw [u _ _ (by omega)]; show t 701 7 = t 701 7 + 0; omega, fun i _ => u _ _ (by omega), trivial, fun i _ => u _ _ (by omega)⟩
  show z_PS g N _ o1 (b + ((0 : Nat) : Int)) p
  unfold z_PS
  rw [u 701 2 (by omega), z_up_eq, u 701 9 (by omega), u 701 8 (by omega), u 701 6 (by omega), u 701 7 (by omega)]
  exact ⟨⟨a1, fun i => by rw [u _ _ (by omega)]; exact a2 i⟩, a3, a4, a5, ⟨rfl, h1⟩, by omega, by omega⟩
theorem z_PG_wt {x y : Int} (h : z_PS g N t o b p) (h1 : b + 1 ≤ p) : z_PG g N t (mf_wt x y t) o b p [(x, y)] := by
  obtain ⟨⟨a1, a2⟩, a3, a4, a5, a6, ⟨a7, a7b⟩, a8⟩ := h
  have u : ∀ a i, ¬ a = 706 → ¬ (a = 701 ∧ (i = 6 ∨ i = 7)) → mf_wt x y t a i = t a i := fun a i x1 x2 => by unfold mf_wt; rw [z_up_ne (by omega), z_up_ne (by omega), z_up_ne (by omega), z_up_ne (by omega)]
  have u7 : mf_wt x y t 701 7 = t 701 7 + (if x = 13 then 0 else 1) := by unfold mf_wt; rw [z_up_eq]
  have u6 : mf_wt x y t 701 6 = t 701 6 + 2 := by unfold mf_wt; rw [z_up_ne (by omega), z_up_eq]
  refine ⟨?_, fun a i x1 x2 => u a i x1 (by omega), by rw [u7]; show _ = t 701 7 + ((if x = 13 then 0 else 1) + 0); omega, fun i hi => ?_, ⟨⟨?_, ?_⟩, trivial⟩, fun i hi => ?_⟩
  · show z_PS g N _ o (b + ((1 : Nat) : Int)) p
    unfold z_PS
    rw [u 701 2 (by omega) (by omega), u 701 8 (by omega) (by omega), u 701 9 (by omega) (by omega), u 701 10 (by omega) (by omega), u6, u7]
    exact ⟨⟨a1, fun i => by rw [u _ _ (by omega) (by omega)]; exact a2 i⟩, a3, a4, a5, a6, by omega, by split <;> omega⟩
  · unfold mf_wt; rw [z_up_ne (by omega), z_up_ne (by omega), z_up_ne (by omega), z_up_ne (by omega)]
  · unfold mf_wt; rw [z_up_ne (by omega), z_up_ne (by omega), z_up_ne (by omega), ← a7, z_up_eq]
  · unfold mf_wt; rw [z_up_ne (by omega), z_up_ne (by omega), ← a7, z_up_eq]
  · have hi : 2 * (b + ((1 : Nat) : Int)) ≤ i := hi
    unfold mf_wt; rw [z_up_ne (by omega), z_up_ne (by omega), z_up_ne (by omega), z_up_ne (by omega)]
theorem z_PG_pt {x y v j : Int} (h : z_PG g N t t1 o b q (c1 ++ (x, y) :: c2)) (hj : j = 2 * (b + c1.length) + 1) : z_PG g N t (z_up t1 706 j v) o b q (c1 ++ (x, v) :: c2) := by
  obtain ⟨a1, a2, a3, a4, a5, a6⟩ := h
  subst hj
  have u : ∀ a i, ¬ (a = 706 ∧ i = 2 * (b + c1.length) + 1) → z_up t1 706 (2 * (b + c1.length) + 1) v a i = t1 a i := fun a i x => z_up_ne (by omega)
  have a5 := (z_aq_app _ _ _).mp a5
  refine ⟨?_, z_PF_tr a2 z_PF_u6, ?_, fun i hi => by rw [u _ _ (by omega)]; exact a4 i hi, (z_aq_app _ _ _).mpr ⟨z_aq_congr c1 b (fun i _ hi => u _ _ (by omega)) a5.1, ⟨by rw [u _ _ (by omega)]; exact a5.2.1.1, z_up_eq⟩, z_aq_congr c2 _ (fun i hi _ => u _ _ (by omega)) a5.2.2⟩, fun i hi => by simp only [List.length_append, List.length_cons] at hi a6; rw [u _ _ (by omega)]; exact a6 i (by omega)⟩
  · rw [List.length_append, List.length_cons] at a1 ⊢
    obtain ⟨⟨b1, b2⟩, b3, b4, b5, b6, b7, b8⟩ := a1
    unfold z_PS
    rw [u 701 2 (by omega), u 701 8 (by omega), u 701 9 (by omega), u 701 10 (by omega), u 701 6 (by omega), u 701 7 (by omega)]
    exact ⟨⟨b1, fun i => by rw [u _ _ (by omega)]; exact b2 i⟩, b3, b4, b5, b6, b7, b8⟩
  · rw [u _ _ (by omega), a3, z_cz_app, z_cz_app]; rfl
theorem z_PS_tg (h : z_PS g N t o b p) : z_tg t ∧ t 701 9 < 0 ∧ z_pk (t 703) (t 701 2) (t 701 8) = z_pk g N p := by
  obtain ⟨⟨a1, a2⟩, a3, a4, a5, a6, a7, a8⟩ := h
  refine ⟨by unfold z_tg; omega, by omega, ?_⟩
  rw [show t 703 = g from funext a2, a1, a4.1]
/-- what is left of a part -/
def z_PM (g : Int → Int) (N : Int) (t : z_M) (o b : Int) (w : Sum Int (Int × z_Cd)) (t' : z_M) : Prop := match w with
  | .inl f => z_PF t t' ∧ t' 701 9 = f ∧ t' 701 10 = o
  | .inr (q, cs) => z_PG g N t t' o b q cs
end PG
