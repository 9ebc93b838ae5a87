/-! the plain questions to the class -/
section
/-- what a question may write -/
def K0 (s s' : Sg) : Prop := mN s' = mN s ∧ s'.2.2.1 = s.2.2.1 ∧ ∀ a k, ¬ (17 ≤ a ∧ a ≤ 30) → a ≠ 5 → mI s' a k = mI s a k ∧ mL s' a k = mL s a k
def KQ (s s' : Sg) : Prop := mN s' = mN s ∧ s'.2.2.1 = s.2.2.1 ∧ ∀ a k, ¬ (17 ≤ a ∧ a ≤ 30) → a ≠ 5 → a ≠ 45 → mI s' a k = mI s a k ∧ mL s' a k = mL s a k
theorem K0.rf (s : Sg) : K0 s s := ⟨rfl, rfl, fun _ _ _ _ => ⟨rfl, rfl⟩⟩
theorem K0.trans {s0 s1 s2 : Sg} (h : K0 s0 s1) (k : K0 s1 s2) : K0 s0 s2 := ⟨k.1.trans h.1, k.2.1.trans h.2.1, fun b j hb hc => ⟨((k.2.2 b j hb hc).1).trans (h.2.2 b j hb hc).1, ((k.2.2 b j hb hc).2).trans (h.2.2 b j hb hc).2⟩⟩
theorem KQ.rf (s : Sg) : KQ s s := ⟨rfl, rfl, fun _ _ _ _ _ => ⟨rfl, rfl⟩⟩
theorem KQ.trans {s0 s1 s2 : Sg} (h : KQ s0 s1) (k : KQ s1 s2) : KQ s0 s2 := ⟨k.1.trans h.1, k.2.1.trans h.2.1, fun b j hb hc hd => ⟨((k.2.2 b j hb hc hd).1).trans (h.2.2 b j hb hc hd).1, ((k.2.2 b j hb hc hd).2).trans (h.2.2 b j hb hc hd).2⟩⟩
theorem K0.q {s s' : Sg} (h : K0 s s') : KQ s s' := ⟨h.1, h.2.1, fun a k ha hb _ => h.2.2 a k ha hb⟩
theorem KF.z {s s' : Sg} (h : KF s s') : K0 s s' := ⟨h.1.1, h.2.1, fun a k ha hb => h.2.2 a k (fun e => ha (by omega)) (fun e => hb e.1)⟩
theorem KY.z {s s' : Sg} (h : KY s s') : K0 s s' := ⟨h.1, h.2.1, fun a k ha hb => h.2.2 a k (fun e => ha (by omega)) hb⟩
def plv (V : Vw) (x : Nat) : Int32 := match plO V x with
  | none => -1073741824
  | some v => v
/-- what is kept of plain ownings is right -/
def PL (V : Vw) (s : Sg) : Prop := ∀ x, x < sOws V → mI s 45 x = 1073741824 ∨ mI s 45 x = plv V x
theorem PL.fr {V : Vw} {s s' : Sg} (h : PL V s) (f : K0 s s') : PL V s' := fun x hx => by
  rw [(f.2.2 45 x (by omega) (by decide)).1]
  exact h x hx
/-- what a question to the class comes to -/
def QK {α : Type} (V : Vw) (s : Sg) (f : Option (α × Sg)) (a : α) : Prop := ∃ s', f = some (a, s') ∧ KT (askW V) s' ∧ KQ s s' ∧ PL V s'
def oB {α : Type} (b : Bool) (x : α) : Option α := if b = true then some x else none
variable {V : Vw} {s : Sg}
theorem QK.mk {α : Type} {s s' : Sg} {f : Option (α × Sg)} {a : α} (hp : PL V s) (e : f = some (a, s')) (h : KT (askW V) s') (k : K0 s s') : QK V s f a := ⟨s', e, h, k.q, hp.fr k⟩
theorem ak_p (V : Vw) : pN (askW V) = pN V := eqW_pN kW_eq
theorem ak_t (V : Vw) : tN (askW V) = tN V := eqW_tN kW_eq
theorem ak_k (V : Vw) : kN (askW V) = kN V := eqW_kN kW_eq
theorem ak_s (V : Vw) (p : Nat) : sN (askW V) p = sN V p := eqW_sN kW_eq p
theorem ak_x (V : Vw) (x : Int32) : xpa (askW V) x = xpa V x := eqW_xpa kW_eq x
theorem ak_v (V : Vw) (q : Nat) : vpa (askW V) q = vpa V q := by
  unfold vpa
  rw [ak_p]
  simp only [ak_s]
theorem ak_b (V : Vw) : bP (askW V) = bP V := by unfold bP; rw [ak_p]
theorem ak_st (V : Vw) (x1 x2 : Int32) : stp (askW V) x1 x2 = stp V x1 x2 := by unfold stp; rw [ak_p, ak_s]
theorem ite01 {α : Type} {c : Prop} {i : Decidable c} {j : Decidable ((@ite Int32 c i 0 1) = 0)} {A B : α} : (@ite α ((@ite Int32 c i 0 1) = 0) j A B) = @ite α c i A B := by
  by_cases h : c
  · rw [if_pos (by rw [if_pos h]), if_pos h]
  · rw [if_neg (by rw [if_neg h]; decide), if_neg h]
theorem kq_cost (h : KT (askW V) s) (hp : PL V s) (x1 x2 : Int32) : QK V s (f_Wk_cost x1 x2 s) (aCost V x1 x2) := by
  have hp4 := h.1.p4
  unfold f_Wk_cost aCost nB
  simp only [f_ck_of h.1.b, f_bd_of (k_isStep h.1 x1 x2), ite10, ak_st]
  by_cases c : stp V x1 x2 = true
  · rw [if_pos c, if_pos c]
    have c' := c
    unfold stp at c'
    rw [Bool.and_eq_true] at c'
    rw [← ak_p] at c'
    obtain ⟨p, hpp, rfl⟩ := xb_t c'.1 (by omega)
    have h3 := (h.1.w.2.2.2.1 p hpp).2.2
    rw [nI_clamp (by omega), ← ak_s] at c'
    obtain ⟨k, hk, rfl⟩ := wi_t c'.2 (by omega)
    have e4 : nI p * 4 + nI k = nI (4 * p + k) := by rw [show (4 : Int32) = nI 4 from rfl, nI_mul, nI_add, Nat.mul_comm]
    rw [e4, f_ck_of (vp_in_nI (by omega) (by decide)), nI_clamp (by omega), nI_clamp (by omega), nI_clamp (by omega), h.1.co (by omega)]
    exact QK.mk hp (by rw [show askW V 50 (4 * p + k) = V 50 (4 * p + k) from kW_no rfl]) h (K0.rf s)
  · rw [if_neg c, if_neg c]
    exact QK.mk hp rfl h (K0.rf s)
theorem kq_owner (h : KT (askW V) s) (hp : PL V s) (x1 x2 : Int32) : QK V s (f_Wk_owner x1 x2 s) (aOwner V x1 x2) := by
  have ht3 := h.1.t3
  unfold f_Wk_owner aOwner nB
  simp only [f_ck_of h.1.b, f_bd_of (k_isThing h.1 x1), f_bd_of (k_isWithin (s := s) x2 1), ite10, ak_t]
  by_cases c1 : xb x1 (tN V) = true
  · rw [if_pos c1]
    by_cases c2 : wi x2 0 1 = true
    · rw [← ak_t] at c1
      obtain ⟨t, ht, rfl⟩ := xb_t c1 (by omega)
      rw [ak_t] at c1
      have i3 : vp_in (nI t) 3 := vp_in_nI (by omega) (by decide)
      rw [if_pos c2, c1, c2, if_pos (show (true && true) = true from rfl), f_ck_of i3, f_ck_of i3, nI_clamp (by omega), h.1.ow (by omega), h.1.ne (by omega)]
      have e1 : askW V 69 t = V 69 t := kW_no rfl
      have e2 : askW V 70 t = V 70 t := kW_no rfl
      rw [e1, e2]
      by_cases c3 : x2 = 0
      · rw [if_pos c3, if_pos c3]; exact QK.mk hp rfl h (K0.rf s)
      · rw [if_neg c3, if_neg c3]; exact QK.mk hp rfl h (K0.rf s)
    · rw [if_neg c2, if_neg (by simp [c2])]; exact QK.mk hp rfl h (K0.rf s)
  · rw [if_neg c1, if_neg (by simp [c1])]; exact QK.mk hp rfl h (K0.rf s)
theorem kq_worth (h : KT (askW V) s) (hp : PL V s) (x1 x2 x3 : Int32) : QK V s (f_Wk_worth x1 x2 x3 s) (oB (bWorth V x1 x2 x3) (aWorth V x1 x2 x3)) := by
  have hp4 := h.1.p4
  have ht3 := h.1.t3
  have h256 := p4_le hp4
  have hn : bWorth V x1 x2 x3 = false → QK V s (some ((none : Option Int32), s)) (oB (bWorth V x1 x2 x3) (aWorth V x1 x2 x3)) := by
    intro e
    rw [e]
    exact QK.mk hp rfl h (K0.rf s)
  unfold f_Wk_worth
  simp only [f_ck_of h.1.b, h.1.pe, h.1.th, f_bd_of (k_isSet (s := s) x1 (show pN (askW V) ≤ 7 by omega)), f_bd_of (k_isSet (s := s) x2 (show tN (askW V) ≤ 7 by omega)), f_bd_of (k_isPains h.1 x3), ite10, ak_x]
  by_cases c1 : xb x1 (2 ^ pN (askW V)) = true
  · rw [if_pos c1]
    by_cases c2 : xb x2 (2 ^ tN (askW V)) = true
    · rw [if_pos c2]
      by_cases c3 : xpa V x3 = true
      · have hb : bWorth V x1 x2 x3 = true := by unfold bWorth; rw [← ak_p, ← ak_t, c1, c2, c3]; rfl
        have h16 := p2_le hp4
        have h16t := p2_le (show tN (askW V) ≤ 4 by omega)
        rw [if_pos c3]
        rw [← ak_x] at c3
        obtain ⟨u, hu, rfl⟩ := xb_t c1 (by omega)
        obtain ⟨t, ht, rfl⟩ := xb_t c2 (by omega)
        obtain ⟨q, hq, rfl, hv⟩ := xpa_t h.1.w c3
        obtain ⟨s1, e1, h1, f1⟩ := k_valueOf h (vpa_lt hv) ht hu
        rw [f_bd_of e1, hb]
        refine QK.mk hp ?_ h1 f1.z
        unfold aWorth
        rw [nI_clamp (by omega)]
        rfl
      · rw [if_neg c3]; exact hn (by unfold bWorth; simp [c3])
    · rw [if_neg c2]; exact hn (by rw [ak_t] at c2; unfold bWorth; simp [c2])
  · rw [if_neg c1]; exact hn (by rw [ak_p] at c1; unfold bWorth; simp [c1])
theorem kq_good (h : KT (askW V) s) (hp : PL V s) (x : Int32) : QK V s (f_Wk_good x s) (oB (bGood V x) (aGood V x)) := by
  have h256 := p4_le h.1.p4
  unfold f_Wk_good
  simp only [f_ck_of h.1.b, f_bd_of (k_isNobody h.1), f_bd_of (k_isPains h.1 x), ite10, ite01, ak_b, ak_x]
  unfold bGood aGood
  by_cases c : bP V = true
  · rw [if_pos c]
    by_cases c2 : xpa V x = true
    · rw [if_pos c2, c, c2]
      rw [← ak_x] at c2
      obtain ⟨q, hq, rfl, hv⟩ := xpa_t h.1.w c2
      obtain ⟨s1, e1, h1, f1⟩ := k_goodOf h (vpa_lt hv)
      rw [f_bd_of e1, nI_clamp (by omega)]
      exact QK.mk hp rfl h1 f1.z
    · have e : (bP V && xpa V x) = false := by simp [c2]
      rw [if_neg c2, e]; exact QK.mk hp rfl h (K0.rf s)
  · have e : (bP V && xpa V x) = false := by simp [c]
    rw [if_neg c, e]; exact QK.mk hp rfl h (K0.rf s)
/-- .. best: beyond the rows of steps there is nothing -/
theorem k_best_hi (h : KT (askW V) s) : ∀ (k q n b : Nat), 4 ^ pN (askW V) ≤ q → q + k = 256 → k < n → f_Wk_bestPains_h4 n (nI b) (nI q) s = some (nI b, s) := by
  intro k
  induction k with
  | zero =>
    intro q n b h4 hq hn
    obtain ⟨n, rfl⟩ : ∃ m, n = m + 1 := ⟨n - 1, by omega⟩
    show f_Wk_bestPains_b4 _ _ _ _ = _
    unfold f_Wk_bestPains_b4
    rw [if_pos (show (256 : Int32) ≤ nI q from nI_le (a := 256) (by omega) (by omega))]
  | succ k ih =>
    intro q n b h4 hq hn
    obtain ⟨n, rfl⟩ : ∃ m, n = m + 1 := ⟨n - 1, by omega⟩
    have hv : ¬ vpa (askW V) q = true := fun h9 => by have := vpa_lt h9; omega
    show f_Wk_bestPains_b4 _ _ _ _ = _
    unfold f_Wk_bestPains_b4 f_Wk_bestPains_b40
    simp only [f_ck_of h.1.b, f_bd_of (k_isPainsN h.1 (show q < 2 ^ 31 by omega)), ite10]
    rw [if_neg (show ¬ (256 : Int32) ≤ nI q from nI_ge (b := 256) (by omega) (by decide)), if_neg hv, nI_1]
    exact ih (q + 1) n b (by omega) (by omega) (by omega)
theorem k_best_h : ∀ (k q n b : Nat) (s : Sg), KT (askW V) s → q + k = 4 ^ pN (askW V) → b < 4 ^ pN (askW V) → k + (256 - 4 ^ pN (askW V)) < n → ∃ s', f_Wk_bestPains_h4 n (nI b) (nI q) s = some (nI (sBestL (askW V) k q b), s') ∧ KT (askW V) s' ∧ KF s s' := by
  intro k
  induction k with
  | zero =>
    intro q n b s h hq hb hn
    have h256 := p4_le h.1.p4
    exact ⟨s, k_best_hi h (256 - 4 ^ pN (askW V)) q n b (by omega) (by omega) (by omega), h, KF.rf s⟩
  | succ k ih =>
    intro q n b s h hq hb hn
    obtain ⟨n, rfl⟩ : ∃ m, n = m + 1 := ⟨n - 1, by omega⟩
    have h256 := p4_le h.1.p4
    show ∃ s', f_Wk_bestPains_b4 _ _ _ _ = some (nI (if vpa (askW V) q = true then (if sGood (askW V) q ≤ sGood (askW V) b then _ else _) else _), s') ∧ _
    unfold f_Wk_bestPains_b4 f_Wk_bestPains_b40
    simp only [f_ck_of h.1.b, f_bd_of (k_isPainsN h.1 (show q < 2 ^ 31 by omega)), ite10]
    rw [if_neg (show ¬ (256 : Int32) ≤ nI q from nI_ge (b := 256) (by omega) (by decide)), nI_1]
    by_cases c : vpa (askW V) q = true
    · obtain ⟨s1, e1, h1, f1⟩ := k_goodOf h (q := q) (by omega)
      obtain ⟨s2, e2, h2, f2⟩ := k_goodOf h1 (q := b) hb
      rw [if_pos c, if_pos c, f_bd_of e1, f_ck_of h1.1.b, f_bd_of e2]
      by_cases c2 : sGood (askW V) q ≤ sGood (askW V) b
      · rw [if_pos c2, if_pos c2]
        obtain ⟨s3, e3, h3, f3⟩ := ih (q + 1) n b s2 h2 (by omega) hb (by omega)
        exact ⟨s3, e3, h3, (f1.trans f2).trans f3⟩
      · rw [if_neg c2, if_neg c2]
        obtain ⟨s3, e3, h3, f3⟩ := ih (q + 1) n q s2 h2 (by omega) (by omega) (by omega)
        exact ⟨s3, e3, h3, (f1.trans f2).trans f3⟩
    · rw [if_neg c, if_neg c]
      exact ih (q + 1) n b s h (by omega) hb (by omega)
theorem k_bestPains (h : KT (askW V) s) : ∃ s', f_Wk_bestPains s = some (nI (sBest (askW V)), s') ∧ KT (askW V) s' ∧ KF s s' ∧ sBest (askW V) < 4 ^ pN (askW V) := by
  have h256 := p4_le h.1.p4
  have h1p : 1 ≤ 4 ^ pN (askW V) := Nat.one_le_pow _ _ (by decide)
  obtain ⟨s1, e1, h1, f1⟩ := k_best_h (V := V) (4 ^ pN (askW V) - 1) 1 zl_fl 0 s h (by omega) (by omega) (zl_fl_lt (by omega))
  refine ⟨s1, e1, h1, f1, ?_⟩
  have := sBestL_lt (askW V) (4 ^ pN (askW V) - 1) 1 0 (by decide)
  unfold sBest
  omega
theorem kq_best (h : KT (askW V) s) (hp : PL V s) (x : Int32) : QK V s (f_Wk_best x s) (oB (bP V && wi x 0 1) (aBest V x)) := by
  unfold f_Wk_best
  simp only [f_ck_of h.1.b, f_bd_of (k_isNobody h.1), f_bd_of (k_isWithin (s := s) x 1), ite10, ite01, ak_b]
  unfold aBest
  by_cases c : bP V = true
  · rw [if_pos c]
    by_cases c2 : wi x 0 1 = true
    · obtain ⟨s1, e1, h1, f1, l1⟩ := k_bestPains h
      obtain ⟨s2, e2, h2, f2⟩ := k_goodOf h1 l1
      rw [if_pos c2, c, c2, f_bd_of e1, f_ck_of h1.1.b, f_bd_of e2]
      by_cases c3 : x = 0
      · rw [if_pos c3, if_pos c3]; exact QK.mk hp rfl h1 f1.z
      · rw [if_neg c3, if_neg c3]; exact QK.mk hp rfl h2 (f1.trans f2).z
    · have e : (bP V && wi x 0 1) = false := by simp [c2]
      rw [if_neg c2, e]; exact QK.mk hp rfl h (K0.rf s)
  · have e : (bP V && wi x 0 1) = false := by simp [c]
    rw [if_neg c, e]; exact QK.mk hp rfl h (K0.rf s)
theorem kq_lost (h : KT (askW V) s) (hp : PL V s) (x : Int32) : QK V s (f_Wk_lost x s) (aLost V x) := by
  have h256 := p4_le h.1.p4
  unfold f_Wk_lost
  simp only [f_ck_of h.1.b, f_bd_of (k_isNobody h.1), f_bd_of (k_isPains h.1 x), ite10, ite01, ak_b, ak_x]
  unfold aLost bGood nB
  by_cases c : bP V = true
  · rw [if_pos c]
    by_cases c2 : xpa V x = true
    · rw [if_pos c2, c, c2, if_pos (show (true && true) = true from rfl)]
      rw [← ak_x] at c2
      obtain ⟨q, hq, rfl, hv⟩ := xpa_t h.1.w c2
      obtain ⟨s1, e1, h1, f1, l1⟩ := k_bestPains h
      obtain ⟨s2, e2, h2, f2⟩ := k_goodOf h1 l1
      obtain ⟨s3, e3, h3, f3⟩ := k_goodOf h2 (vpa_lt hv)
      rw [f_bd_of e1, f_ck_of h1.1.b, f_bd_of e2, f_ck_of h2.1.b, f_bd_of e3, nI_clamp (by omega)]
      exact QK.mk hp rfl h3 ((f1.trans f2).trans f3).z
    · rw [if_neg c2, if_neg (by simp [c2])]; exact QK.mk hp rfl h (K0.rf s)
  · rw [if_neg c, if_neg (by simp [c])]; exact QK.mk hp rfl h (K0.rf s)
/-! what one has -/
theorem k_things_h (h : KT (askW V) s) {u : Nat} (hu : u < 16) : ∀ (k t n a : Nat), t + k = tN (askW V) → k < n → f_Wk_thingsOf_h4 n (nI u) (nI a) (nI t) s = some (nI (sHasL (askW V) 0 u k t a), s) := by
  have ht3 := h.1.t3
  have hp4 := h.1.p4
  intro k
  induction k with
  | zero =>
    intro t n a ht hn
    obtain ⟨n, rfl⟩ : ∃ m, n = m + 1 := ⟨n - 1, by omega⟩
    show f_Wk_thingsOf_b4 _ _ _ _ _ = _
    unfold f_Wk_thingsOf_b4
    rw [f_ck_of h.1.b, h.1.th, if_pos (nI_le (by omega) (by omega))]
    rfl
  | succ k ih =>
    intro t n a ht hn
    obtain ⟨n, rfl⟩ : ∃ m, n = m + 1 := ⟨n - 1, by omega⟩
    have i3 : vp_in (nI t) 3 := vp_in_nI (by omega) (by decide)
    have hl0 : laid (askW V) 0 (fun t => V 69 t) (fun t => V 70 t) 3 := kW_la0
    have hl := hl0 t (by omega)
    have e69 : askW V 69 t = askW V 74 (0 + t) := (kW_no rfl : askW V 69 t = V 69 t).trans hl.1.symm
    have e70 : askW V 70 t = askW V 75 (0 + t) := (kW_no rfl : askW V 70 t = V 70 t).trans hl.2.1.symm
    obtain ⟨n1, n2⟩ := own_lim h.1.w t (by omega)
    rw [e69] at n1
    rw [e70] at n2
    obtain ⟨c1, b1⟩ := is_n_at n1 (by decide)
    obtain ⟨c2, b2⟩ := is_n_at n2 (by decide)
    have eH : hold (askW V 74 (0 + t)).toNatClampNeg (askW V 75 (0 + t)).toNatClampNeg u (pN (askW V)) = sHo (askW V) 0 u t := rfl
    show f_Wk_thingsOf_b4 _ _ _ _ _ = some (nI (sHasL (askW V) 0 u k (t + 1) (a ||| (if sHo (askW V) 0 u t = true then 2 ^ t else 0))), s)
    unfold f_Wk_thingsOf_b4 f_Wk_thingsOf_b53
    rw [f_ck_of h.1.b, h.1.th, if_neg (nI_ge (by omega) (by omega)), f_ck_of i3, f_ck_of i3, f_bd_of (k_all h.1), nI_clamp (by omega), h.1.ow (by omega), h.1.ne (by omega), e69, e70, c1, c2, f_bd_of (k_holds (s := s) hu (show (askW V 74 (0 + t)).toNatClampNeg < 16 by omega) (by omega) hp4), eH, nI_1]
    by_cases c : sHo (askW V) 0 u t = true
    · rw [c, if_neg (show ¬ b2i true = 0 by decide), if_pos rfl, shl_p t (by omega), nI_or]
      exact ih (t + 1) n _ (by omega) (by omega)
    · have c' : sHo (askW V) 0 u t = false := by simpa using c
      rw [c', if_pos (show b2i false = 0 from rfl), if_neg (by decide), Nat.or_zero]
      exact ih (t + 1) n _ (by omega) (by omega)
theorem k_thingsOf (h : KT (askW V) s) {u : Nat} (hu : u < 16) : f_Wk_thingsOf (nI u) s = some (nI (sHas (askW V) 0 u), s) := by
  have ht3 := h.1.t3
  unfold f_Wk_thingsOf
  exact k_things_h h hu (tN (askW V)) 0 zl_fl 0 (by omega) (zl_fl_lt (by omega))
theorem k_madeBy (h : KT (askW V) s) {u q : Nat} (hu : u < 2 ^ pN (askW V)) (hq : q < 4 ^ pN (askW V)) : ∃ s', f_Wk_madeBy (nI u) (nI q) s = some (sMk (askW V) 0 u q, s') ∧ KT (askW V) s' ∧ KF s s' := by
  have h16 := p2_le h.1.p4
  obtain ⟨s1, e1, h1, f1⟩ := k_valueOf h hq (sHas_lt (askW V) 0 u) hu
  refine ⟨s1, ?_, h1, f1⟩
  unfold f_Wk_madeBy
  rw [f_ck_of h.1.b, f_bd_of (k_thingsOf h (by omega)), f_ck_of h.1.b, f_bd_of e1]
  rfl
theorem kq_has (h : KT (askW V) s) (hp : PL V s) (x : Int32) : QK V s (f_Wk_has x s) (aHas V x) := by
  have hp4 := h.1.p4
  have h16 := p2_le hp4
  unfold f_Wk_has aHas nB
  simp only [f_ck_of h.1.b, h.1.pe, f_bd_of (k_isSet (s := s) x (show pN (askW V) ≤ 7 by omega)), ite10]
  rw [ak_p]
  by_cases c : xb x (2 ^ pN V) = true
  · rw [if_pos c, if_pos c]
    rw [← ak_p] at c
    obtain ⟨u, hu, rfl⟩ := xb_t c (by omega)
    rw [f_bd_of (k_thingsOf h (by omega)), nI_clamp (by omega)]
    exact QK.mk hp rfl h (K0.rf s)
  · rw [if_neg c, if_neg c]; exact QK.mk hp rfl h (K0.rf s)
theorem kq_makes (h : KT (askW V) s) (hp : PL V s) (x1 x2 : Int32) : QK V s (f_Wk_makes x1 x2 s) (oB (bMakes V x1 x2) (aMakes V x1 x2)) := by
  have hp4 := h.1.p4
  have h16 := p2_le hp4
  have h256 := p4_le hp4
  unfold f_Wk_makes bMakes aMakes
  simp only [f_ck_of h.1.b, h.1.pe, f_bd_of (k_isSet (s := s) x1 (show pN (askW V) ≤ 7 by omega)), f_bd_of (k_isPains h.1 x2), ite10, ak_x]
  rw [ak_p]
  by_cases c1 : xb x1 (2 ^ pN V) = true
  · rw [if_pos c1]
    by_cases c2 : xpa V x2 = true
    · rw [if_pos c2, c1, c2]
      rw [← ak_p] at c1
      rw [← ak_x] at c2
      obtain ⟨u, hu, rfl⟩ := xb_t c1 (by omega)
      obtain ⟨q, hq, rfl, hv⟩ := xpa_t h.1.w c2
      obtain ⟨s1, e1, h1, f1⟩ := k_madeBy h hu (vpa_lt hv)
      rw [f_bd_of e1, nI_clamp (by omega), nI_clamp (by omega)]
      exact QK.mk hp rfl h1 f1.z
    · have e : (xb x1 (2 ^ pN V) && xpa V x2) = false := by simp [c2]
      rw [if_neg c2, e]; exact QK.mk hp rfl h (K0.rf s)
  · have e : (xb x1 (2 ^ pN V) && xpa V x2) = false := by simp [c1]
    rw [if_neg c1, e]; exact QK.mk hp rfl h (K0.rf s)
theorem kq_leaving (h : KT (askW V) s) (hp : PL V s) (x1 x2 : Int32) : QK V s (f_Wk_leaving x1 x2 s) (oB (bPP V x1 x2) (aLeaving V x1 x2)) := by
  have hp4 := h.1.p4
  have h16 := p2_le hp4
  have h256 := p4_le hp4
  have h1p : 1 ≤ 2 ^ pN (askW V) := Nat.one_le_two_pow
  unfold f_Wk_leaving bPP aLeaving
  simp only [f_ck_of h.1.b, f_bd_of (k_isPerson h.1 x1), f_bd_of (k_isPains h.1 x2), f_bd_of (k_all h.1), ite10, ak_x]
  rw [ak_p]
  by_cases c1 : xb x1 (pN V) = true
  · rw [if_pos c1]
    by_cases c2 : xpa V x2 = true
    · rw [if_pos c2, c1, c2]
      rw [← ak_p] at c1
      rw [← ak_x] at c2
      obtain ⟨p, hpp, rfl⟩ := xb_t c1 (by omega)
      obtain ⟨q, hq, rfl, hv⟩ := xpa_t h.1.w c2
      rw [← ak_p]
      obtain ⟨s1, e1, h1, f1⟩ := k_madeBy h (u := 2 ^ pN (askW V) - 1) (by omega) (vpa_lt hv)
      have l0 := Nat.two_pow_pos p
      obtain ⟨s2, e2, h2, f2⟩ := k_madeBy h1 (u := 2 ^ pN (askW V) - 1 - 2 ^ p) (by omega) (vpa_lt hv)
      rw [f_bd_of e1, f_ck_of h1.1.b, shl_p p (by omega), and_off _ hp4 p hpp, f_bd_of e2, nI_clamp (by omega), nI_clamp (by omega)]
      exact QK.mk hp rfl h2 (f1.trans f2).z
    · have e : (xb x1 (pN V) && xpa V x2) = false := by simp [c2]
      rw [if_neg c2, e]; exact QK.mk hp rfl h (K0.rf s)
  · have e : (xb x1 (pN V) && xpa V x2) = false := by simp [c1]
    rw [if_neg c1, e]; exact QK.mk hp rfl h (K0.rf s)
end
