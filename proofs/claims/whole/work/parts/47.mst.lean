/-! the reference: a step -/
def mf_adv (r : Int) (t : z_M) : z_M := z_up (z_up t 721 r (t 721 r + 1)) 726 (mf_top r t) (t 726 (mf_top r t) + 2)
def mf_op (r : Int) (t : z_M) : Int := t 704 (400 * (t 725 (mf_top r t) / 101) + t 726 (mf_top r t))
def mf_arg (r : Int) (t : z_M) : Int := t 704 (400 * (t 725 (mf_top r t) / 101) + t 726 (mf_top r t) + 1)
def mf_res (r f v : Int) (t : z_M) : z_M := if -9999 ≤ v ∧ v ≤ 9999 then mf_holds f v t else mf_fails r 3 t
def mf_st1 (r f op ar : Int) (t t1 : z_M) : z_M :=
  if op = 4 then (if -50 ≤ mf_val f t1 ∧ mf_val f t1 ≤ 50 then mf_ask r (101 * ar + mf_val f t1 + 50) 0 (mf_taken f t1) else mf_fails r 3 (mf_taken f t1))
  else if op = 12 then z_up (mf_taken f t1) 726 f (if mf_val f t1 = 0 then ar else t 726 f + 2)
  else if op = 2 then mf_res r f (t 725 f % 101 - 50) t1
  else if op = 3 then mf_res r f (t 702 ar) (z_up t1 729 f (z_or (t 729 f) (z_shl 1 ar)))
  else if op = 11 then mf_res r f (-mf_val f t1) (mf_taken f t1)
  else if op = 1 then mf_res r f ar t1
  else if op = 8 ∧ mf_val f t1 = 0 then mf_fails r 2 (mf_taken f (mf_taken f t1))
  else mf_res r f (z_jn op (mf_val f (mf_taken f t1)) (mf_val f t1)) (mf_taken f (mf_taken f t1))
def mf_st (r : Int) (t : z_M) : z_M := if t 721 r = 2000 then mf_fails r 6 t else mf_st1 r (mf_top r t) (mf_op r t) (mf_arg r t) t (mf_adv r t)
/-- what a node may change -/
def z_nd (t t' : z_M) (r : Int) : Prop := ∀ a i, ¬ (a = 721 ∧ i = r) → ¬ ((a = 726 ∨ a = 729 ∨ a = 732) ∧ i = mf_top r t) → ¬ (a = 733 ∧ 64 * mf_top r t ≤ i ∧ i < 64 * mf_top r t + 64) → t' a i = t a i
theorem z_nd_me {t t' : z_M} {r : Int} (h : z_nd t t' r) : z_me t t' := by
  refine ⟨?_, ?_, ?_⟩ <;> (funext i; exact h _ _ (by omega) (by omega) (by omega))
theorem z_nd_fe {t t' : z_M} {r f : Int} (h : z_nd t t' r) (hf : ¬ f = mf_top r t) : z_fe t t' f := ⟨fun a x y z => h a f (by omega) (by omega) (by omega), fun i _ _ => h _ _ (by omega) (by omega) (by omega), fun i _ _ => h _ _ (by omega) (by omega) (by omega)⟩
theorem z_nd_MX {t t' : z_M} {r : Int} (h : z_nd t t' r) (hx : z_MX t r) (hr0 : 0 ≤ r) (hr1 : r < 5) (hd : 1 ≤ t 722 r ∧ t 722 r ≤ 30) : z_MX t' r := by
  have ht : mf_top r t = 30 * r + t 722 r - 1 := rfl
  exact z_MX_eq (z_nd_me h) hx (fun a k x y _ _ _ => h a k (by omega) (by omega) (by omega)) (h _ _ (by omega) (by omega) (by omega)) (h _ _ (by omega) (by omega) (by omega)) (h _ _ (by omega) (by omega) (by omega)) (h _ _ (by omega) (by omega) (by omega)) (h _ _ (by omega) (by omega) (by omega)) (fun q q0 q1 q2 => ⟨fun a x y z => h a q (by omega) (by omega) (by omega), fun f _ _ => z_nd_fe h (by omega)⟩)
theorem z_nd_RR {t t' : z_M} {r : Int} (h : z_nd t t' r) (hx : z_MX t r) (hr : z_RR t r) (h1 : t' 721 r = t 721 r + 1) (h2 : ¬ t 721 r = 2000) (h3 : 0 ≤ t' 732 (mf_top r t)) (hs : ∀ O, z_sp t O (t 725 (mf_top r t)) (z_FS t (mf_top r t)) = some (z_FS t' (mf_top r t))) : z_RR t' r := by
  obtain ⟨b1, b2, b3, b4⟩ := hr
  have ht : mf_top r t = 30 * r + t 722 r - 1 := rfl
  have h25 : ∀ i, t' 725 i = t 725 i := fun i => h _ _ (by omega) (by omega) (by omega)
  unfold z_RR
  rw [h 722 r (by omega) (by omega) (by omega), h1]
  refine ⟨b1, by omega, fun i i0 i1 => ?_, ?_⟩
  · rw [h25]
    exact z_FP_fe hx.1 (z_nd_me h) (z_nd_fe h (by omega)) (b3 i i0 i1)
  · rw [← ht] at b4 ⊢
    obtain ⟨⟨c1, c2, c3⟩, n, j, e⟩ := b4
    refine ⟨⟨by rw [h25]; exact c1, h3, by rw [h 730 _ (by omega) (by omega) (by omega)]; exact c3⟩, n, j + 1, ?_⟩
    rw [z_me_ev (z_nd_me h), z_me_it (z_nd_me h), h25]
    show (z_it t (z_ev t n) (t 725 (mf_top r t)) j).bind _ = _
    rw [e]
    exact hs _
theorem z_nd_HT {t t' : z_M} {r : Int} (h : z_nd t t' r) (hs : z_HT t r) : z_HT t' r ∧ mf_top r t' = mf_top r t := by
  have ht : mf_top r t' = mf_top r t := by unfold mf_top; rw [h 722 r (by omega) (by omega) (by omega)]
  refine ⟨?_, ht⟩
  unfold z_HT at hs ⊢
  rw [ht, h 705 _ (by omega) (by omega) (by omega), h 725 _ (by omega) (by omega) (by omega)]
  exact hs
/-- a call that waits for its key -/
theorem z_nd_RP {t t' : z_M} {r v : Int} (h : z_nd t t' r) (hx : z_MX t r) (hr : z_RR t r) (hs : z_HT t r) (hse : z_SE t r) (h1 : t' 721 r = t 721 r + 1) (h2 : ¬ t 721 r = 2000) (hop : mf_op r t = 4) (hv : mf_val (mf_top r t) t = v) (hv0 : -50 ≤ v ∧ v ≤ 50) (e26 : t' 726 (mf_top r t) = t 726 (mf_top r t) + 2) (e29 : t' 729 (mf_top r t) = t 729 (mf_top r t)) (e32 : t' 732 (mf_top r t) = t 732 (mf_top r t) - 1) (e33 : ∀ i, t' 733 i = t 733 i) : z_RP t' r (101 * mf_arg r t + v + 50) := by
  obtain ⟨b1, b2, b3, b4⟩ := hr
  have ht : mf_top r t = 30 * r + t 722 r - 1 := rfl
  have h25 : ∀ i, t' 725 i = t 725 i := fun i => h _ _ (by omega) (by omega) (by omega)
  rw [← ht] at b4
  obtain ⟨s1, s2, s3, s4, s5, s6⟩ := z_FR_sz hx.1 b4
  have b4' := b4
  obtain ⟨⟨c1, c2, c3⟩, n, j, e⟩ := b4
  obtain ⟨R0, R1⟩ := z_kr c1.1 c1.2
  obtain ⟨-, -, -, t4⟩ := hx.1.2 _ R0 R1
  obtain ⟨-, -, D, hD⟩ := t4 hs
  have hpl : t 726 (mf_top r t) < t 705 (t 725 (mf_top r t) / 101) := (hse.resolve_left hs).1
  have hTO := hD.2.2.2 _ s1.1 hpl s1.2.2.2.2
  have hop' : t 704 (400 * (t 725 (mf_top r t) / 101) + t 726 (mf_top r t)) = 4 := hop
  have har : t 704 (400 * (t 725 (mf_top r t) / 101) + t 726 (mf_top r t) + 1) = mf_arg r t := rfl
  have hgd := (z_gd_it (hx.1.2 _ R0 R1).1 (hx.1.2 _ R0 R1).2.2.1 hD (z_ev_gd hx.1 n) j e).2.2.2.1
  unfold z_FS at hgd
  dsimp only at hgd
  rw [z_ll_len] at hgd
  unfold z_TO at hTO
  rw [hop', har] at hTO
  have h32 : 1 ≤ t 732 (mf_top r t) := by omega
  have hFS : z_FS t (mf_top r t) = (t 726 (mf_top r t), v :: (z_FS t' (mf_top r t)).2.1, t 729 (mf_top r t), (z_FS t' (mf_top r t)).2.2.2) := by
    unfold z_FS
    dsimp only
    rw [e32, h 730 _ (by omega) (by omega) (by omega), show t' 733 = t 733 from funext e33, show t' 731 = t 731 from funext fun i => h _ _ (by omega) (by omega) (by omega), show (t 732 (mf_top r t)).toNat = (t 732 (mf_top r t) - 1).toNat + 1 by omega, ← hv]
    unfold mf_val
    show (_, t 733 (64 * mf_top r t + (((t 732 (mf_top r t) - 1).toNat : Nat) : Int)) :: _, _, _) = _
    rw [show 64 * mf_top r t + (((t 732 (mf_top r t) - 1).toNat : Nat) : Int) = 64 * mf_top r t + t 732 (mf_top r t) - 1 by omega]
  unfold z_RP
  rw [h 722 r (by omega) (by omega) (by omega), h1, ← ht]
  refine ⟨by omega, by omega, fun i i0 i1 => ?_, by omega, fun _ => ?_⟩
  · rw [h25]
    exact z_FP_fe hx.1 (z_nd_me h) (z_nd_fe h (by omega)) (b3 i i0 i1)
  · refine ⟨⟨by rw [h25]; exact c1, by rw [e32]; omega, by rw [h 730 _ (by omega) (by omega) (by omega)]; exact c3⟩, n, j, v, ?_⟩
    rw [z_me_ev (z_nd_me h), z_me_it (z_nd_me h), h25, e26, e29, show t 726 (mf_top r t) + 2 - 2 = t 726 (mf_top r t) by omega, (z_nd_me h).2.1, (z_nd_me h).2.2, hop', har]
    exact ⟨by rw [← hFS]; exact e, hpl, rfl, hv0, rfl⟩
