/-! the owning that the class looks at -/
section
/-- nothing is written but an owning's own arrays -/
def KS (a : Nat) (s s' : Sg) : Prop := mN s' = mN s ∧ s'.2.2.1 = s.2.2.1 ∧ ∀ b k, ¬ (a + 1 ≤ b ∧ b ≤ a + 4) → mI s' b k = mI s b k ∧ mL s' b k = mL s b k
theorem KS.rf (a : Nat) (s : Sg) : KS a s s := ⟨rfl, rfl, fun _ _ _ => ⟨rfl, rfl⟩⟩
theorem KS.trans {a : Nat} {s0 s1 s2 : Sg} (h : KS a s0 s1) (k : KS a s1 s2) : KS a s0 s2 := ⟨k.1.trans h.1, k.2.1.trans h.2.1, fun b j hb => ⟨((k.2.2 b j hb).1).trans (h.2.2 b j hb).1, ((k.2.2 b j hb).2).trans (h.2.2 b j hb).2⟩⟩
theorem ks_uI {a : Nat} (s : Sg) {b k : Nat} (x : Int32) (hb : a + 1 ≤ b ∧ b ≤ a + 4) : KS a s (uI s b k x) := ⟨rfl, rfl, fun c j hc => ⟨zl_up_ne _ _ (fun e => by omega), rfl⟩⟩
theorem KS.b {a : Nat} {s s' : Sg} (h : KS a s s') (hb : zl_B s) : zl_B s' := ⟨by rw [h.1]; exact hb.1, by rw [h.2.1]; exact hb.2⟩
theorem KS.g {a : Nat} {s s' : Sg} (h : KS a s s') (ha : a = 21 ∨ a = 26) : KG s s' := ⟨h.1, h.2.1, fun b k hb => (h.2.2 b k (by omega)).1⟩
variable {W : Vw} {s : Sg}
theorem k_holds {u ow nd : Nat} (hu : u < 16) (how : ow < 16) (hnd : nd < 2 ^ 31) (hp : pN W ≤ 4) : f_Ow_holds (nI u) (nI ow) (nI nd) (nI (2 ^ pN W - 1)) s = some (b2i (hold ow nd u (pN W)), s) := by
  have h16 := p2_le hp
  have h1p : 1 ≤ 2 ^ pN W := Nat.one_le_two_pow
  unfold f_Ow_holds hold
  by_cases c : ow = 0
  · rw [if_pos (show nI ow = 0 by rw [c]; rfl), if_pos c]
    by_cases c2 : u + 1 = 2 ^ pN W
    · rw [if_pos (by rw [show 2 ^ pN W - 1 = u by omega])]; simp [b2i, c2]
    · rw [if_neg (nI_neq (by omega) (by omega) (by omega))]; simp [b2i, c2]
  · have hw : u &&& ow < 16 := Nat.lt_of_le_of_lt Nat.and_le_left hu
    have hb8 := sBits_le (u &&& ow)
    rw [if_neg (show ¬ nI ow = 0 from nI_ne0 (by omega) (by omega)), if_neg c, nI_and, f_bd_of (bc_16 _ hw)]
    by_cases c2 : nd ≤ sBits (u &&& ow)
    · rw [if_neg (nI_nlt c2 (by omega))]; simp [b2i, c2]
    · rw [if_pos (nI_lt (by omega) hnd)]; simp [b2i, c2]
/-- the owning at the context r of W, its later one beside it -/
def LO (W : Vw) (r : Nat) : Prop := ∀ t, t < 3 → is_n (W 74 (r + t)) 15 ∧ is_n (W 75 (r + t)) 4 ∧ is_n (W 74 (r + 3 + t)) 15 ∧ is_n (W 75 (r + 3 + t)) 4 ∧ W 74 (r + 3 + t) = (if W 73 t = 0 then W 74 (r + t) else W 71 t) ∧ W 75 (r + 3 + t) = (if W 73 t = 0 then W 75 (r + t) else W 72 t)
def LA (W : Vw) (s : Sg) (a r : Nat) : Prop := ∀ t, t < tN W → mI s (a + 1) t = W 74 (r + t) ∧ mI s (a + 2) t = W 75 (r + t)
theorem k_set29 {a r u : Nat} (ha : a = 21 ∨ a = 26) (hO : LO W r) (hu : u < 16) (R7 : Nat → Int32 → Int32 → Sg → Option (Unit × Sg)) : ∀ (k t n A B : Nat) (s : Sg), KB W s → LA W s a r → mI s (a + 3) u = nI A → mI s (a + 4) u = nI B → t + k = tN W → k < n →
    ∃ s', f_Ow_settle_h29 R7 n a (nI (2 ^ pN W - 1)) (nI u) (nI t) s = R7 a (nI (2 ^ pN W - 1)) (nI (u + 1)) s' ∧ mI s' (a + 3) u = nI (sHasL W r u k t A) ∧ mI s' (a + 4) u = nI (sHasL W (r + 3) u k t B) ∧ KS a s s' ∧ KB W s' ∧ LA W s' a r ∧ (∀ v, v ≠ u → mI s' (a + 3) v = mI s (a + 3) v ∧ mI s' (a + 4) v = mI s (a + 4) v) := by
  intro k
  induction k with
  | zero =>
    intro t n A B s h hL hA hB ht hn
    obtain ⟨n, rfl⟩ : ∃ m, n = m + 1 := ⟨n - 1, by omega⟩
    have ht3 := h.t3
    refine ⟨s, ?_, hA, hB, KS.rf a s, h, hL, fun _ _ => ⟨rfl, rfl⟩⟩
    show f_Ow_settle_b29 _ _ _ _ _ _ _ = _
    unfold f_Ow_settle_b29 f_Ow_settle_b169
    rw [f_ck_of h.b, h.th, if_pos (nI_le (by omega) (by omega)), nI_1]
  | succ k ih =>
    intro t n A B s h hL hA hB ht hn
    obtain ⟨n, rfl⟩ : ∃ m, n = m + 1 := ⟨n - 1, by omega⟩
    have ht3 := h.t3
    have hp4 := h.p4
    obtain ⟨o1, ⟨r0, r1, r2, r3⟩, a1, a2, a3, a4⟩ := ow_ok h.b ha
    have i3 : vp_in (nI t) 3 := vp_in_nI (by omega) (by decide)
    have i16 : vp_in (nI u) 16 := vp_in_nI (by omega) (by decide)
    obtain ⟨n1, n2, n3, n4, l1, l2⟩ := hO t (by omega)
    obtain ⟨e1, e2⟩ := hL t (by omega)
    obtain ⟨c1, b1⟩ := is_n_at n1 (by decide)
    obtain ⟨c2, b2⟩ := is_n_at n2 (by decide)
    obtain ⟨c3, b3⟩ := is_n_at n3 (by decide)
    obtain ⟨c4, b4⟩ := is_n_at n4 (by decide)
    -- the last step, for the later owning
    have h138 : ∀ (s1 : Sg) (A1 : Nat), KB W s1 → LA W s1 a r → KS a s s1 → mI s1 (a + 3) u = nI A1 → mI s1 (a + 4) u = nI B → A1 = (A ||| (if sHo W r u t = true then 2 ^ t else 0)) → (∀ v, v ≠ u → mI s1 (a + 3) v = mI s (a + 3) v ∧ mI s1 (a + 4) v = mI s (a + 4) v) →
        ∃ s', f_Ow_settle_b138 R7 (f_Ow_settle_h29 R7 n) a (nI (2 ^ pN W - 1)) (nI u) (nI t) (W 74 (r + 3 + t)) (W 75 (r + 3 + t)) s1 = R7 a (nI (2 ^ pN W - 1)) (nI (u + 1)) s' ∧ mI s' (a + 3) u = nI (sHasL W r u (k + 1) t A) ∧ mI s' (a + 4) u = nI (sHasL W (r + 3) u (k + 1) t B) ∧ KS a s s' ∧ KB W s' ∧ LA W s' a r ∧ (∀ v, v ≠ u → mI s' (a + 3) v = mI s (a + 3) v ∧ mI s' (a + 4) v = mI s (a + 4) v) := by
      intro s1 A1 h1 hL1 f1 hA1 hB1 eA hv1
      obtain ⟨o1, ⟨r0, r1, r2, r3⟩, a1, a2, a3, a4⟩ := ow_ok h1.b ha
      have eH : hold (cN W 74 (r + 3 + t)) (cN W 75 (r + 3 + t)) u (pN W) = sHo W (r + 3) u t := rfl
      unfold f_Ow_settle_b138 f_Ow_settle_b163
      rw [c3, c4, f_bd_of (k_holds (s := s1) hu (show (W 74 (r + 3 + t)).toNatClampNeg < 16 by omega) (by omega) hp4)]
      have eH' : hold (W 74 (r + 3 + t)).toNatClampNeg (W 75 (r + 3 + t)).toNatClampNeg u (pN W) = sHo W (r + 3) u t := rfl
      rw [eH']
      show ∃ s', _ = _ ∧ mI s' (a + 3) u = nI (sHasL W r u k (t + 1) (A ||| (if sHo W r u t = true then 2 ^ t else 0))) ∧ mI s' (a + 4) u = nI (sHasL W (r + 3) u k (t + 1) (B ||| (if sHo W (r + 3) u t = true then 2 ^ t else 0))) ∧ _
      rw [← eA]
      by_cases c : sHo W (r + 3) u t = true
      · rw [c, if_neg (show ¬ b2i true = 0 by decide), if_pos rfl]
        simp only [f_ck_of o1, f_ck_of r3, f_ck_of a4, f_ck_of i16, nI_clamp (show u < 2 ^ 31 by omega), hB1, shl_p t (show t ≤ 7 by omega), nI_or, nI_1]
        have f2 := ks_uI (a := a) s1 (b := a + 4) (k := u) (nI (B ||| 2 ^ t)) (by omega)
        have h2 := h1.gf (f2.g ha)
        obtain ⟨s3, e3, p1, p2, f3, h3, L3, v3⟩ := ih (t + 1) n A1 (B ||| 2 ^ t) _ h2 (fun t' ht' => ⟨(mI_ne _ _ (by omega)).trans (hL1 t' ht').1, (mI_ne _ _ (by omega)).trans (hL1 t' ht').2⟩) ((mI_ne _ _ (by omega)).trans hA1) (mI_at _ _ _ _) (by omega) (by omega)
        refine ⟨s3, e3, p1, p2, (f1.trans f2).trans f3, h3, L3, fun v hv => ?_⟩
        rw [(v3 v hv).1, (v3 v hv).2, mI_ne _ _ (by omega), mI_ne _ _ (by omega)]
        exact hv1 v hv
      · have c' : sHo W (r + 3) u t = false := by simpa using c
        rw [c', if_pos (show b2i false = 0 from rfl), if_neg (by decide), nI_1, Nat.or_zero]
        obtain ⟨s3, e3, p1, p2, f3, h3, L3, v3⟩ := ih (t + 1) n A1 B s1 h1 hL1 hA1 hB1 (by omega) (by omega)
        exact ⟨s3, e3, p1, p2, f1.trans f3, h3, L3, fun v hv => by rw [(v3 v hv).1, (v3 v hv).2]; exact hv1 v hv⟩
    have h101 : ∃ s', f_Ow_settle_b101 R7 (f_Ow_settle_h29 R7 n) a (nI (2 ^ pN W - 1)) (nI u) (nI t) (W 74 (r + 3 + t)) (W 75 (r + 3 + t)) s = R7 a (nI (2 ^ pN W - 1)) (nI (u + 1)) s' ∧ mI s' (a + 3) u = nI (sHasL W r u (k + 1) t A) ∧ mI s' (a + 4) u = nI (sHasL W (r + 3) u (k + 1) t B) ∧ KS a s s' ∧ KB W s' ∧ LA W s' a r ∧ (∀ v, v ≠ u → mI s' (a + 3) v = mI s (a + 3) v ∧ mI s' (a + 4) v = mI s (a + 4) v) := by
      have eH' : hold (W 74 (r + t)).toNatClampNeg (W 75 (r + t)).toNatClampNeg u (pN W) = sHo W r u t := rfl
      unfold f_Ow_settle_b101
      simp only [f_ck_of o1, f_ck_of r0, f_ck_of r1, f_ck_of r2, f_ck_of a1, f_ck_of a2, f_ck_of a3, f_ck_of i3, f_ck_of i16, nI_clamp (show t < 2 ^ 31 by omega), nI_clamp (show u < 2 ^ 31 by omega), e1, e2]
      rw [c1, c2, f_bd_of (k_holds (s := s) hu (show (W 74 (r + t)).toNatClampNeg < 16 by omega) (by omega) hp4), eH']
      by_cases c : sHo W r u t = true
      · rw [c, if_neg (show ¬ b2i true = 0 by decide)]
        simp only [f_ck_of o1, f_ck_of r2, f_ck_of a3, f_ck_of i16, hA, shl_p t (show t ≤ 7 by omega), nI_or]
        have f2 := ks_uI (a := a) s (b := a + 3) (k := u) (nI (A ||| 2 ^ t)) (by omega)
        exact h138 _ _ (h.gf (f2.g ha)) (fun t' ht' => ⟨(mI_ne _ _ (by omega)).trans (hL t' ht').1, (mI_ne _ _ (by omega)).trans (hL t' ht').2⟩) f2 (mI_at _ _ _ _) ((mI_ne _ _ (by omega)).trans hB) (by rw [if_pos c]) (fun v hv => ⟨mI_ne _ _ (by omega), mI_ne _ _ (by omega)⟩)
      · have c' : sHo W r u t = false := by simpa using c
        rw [c', if_pos (show b2i false = 0 from rfl)]
        exact h138 s A h hL (KS.rf a s) hA hB (by rw [if_neg c, Nat.or_zero]) (fun _ _ => ⟨rfl, rfl⟩)
    show ∃ s', f_Ow_settle_b29 _ _ _ _ _ _ _ = _ ∧ _
    unfold f_Ow_settle_b29 f_Ow_settle_b53 f_Ow_settle_b77
    rw [f_ck_of h.b, h.th, if_neg (nI_ge (by omega) (by omega)), f_ck_of i3, nI_clamp (by omega)]
    rcases h.la (t := t) (by omega) with ⟨z1, z2⟩ | ⟨z1, z2, z3, z4⟩
    · rw [if_pos z1] at l1 l2
      rw [l1, l2] at h101
      rw [if_pos z2, if_neg (by decide)]
      simp only [f_ck_of o1, f_ck_of r0, f_ck_of r1, f_ck_of a1, f_ck_of a2, f_ck_of i3, nI_clamp (show t < 2 ^ 31 by omega), e1, e2]
      rw [if_neg (by decide)]
      exact h101
    · have z1' : ¬ W 73 t = 0 := by rw [z1]; decide
      rw [if_neg z1'] at l1 l2
      rw [l1, l2] at h101
      rw [z3, if_neg z4, if_pos rfl, f_ck_of h.b, f_ck_of i3, if_pos rfl, f_ck_of h.b, f_ck_of i3, z2]
      exact h101
theorem k_set7 {a r : Nat} (ha : a = 21 ∨ a = 26) (hO : LO W r) : ∀ (k u n : Nat) (s : Sg), KB W s → LA W s a r → (∀ v, v < u → mI s (a + 3) v = nI (sHas W r v) ∧ mI s (a + 4) v = nI (sHas W (r + 3) v)) → u + k = 2 ^ pN W → k < n →
    ∃ s', f_Ow_settle_h7 n a (nI (2 ^ pN W - 1)) (nI u) s = some ((), s') ∧ KA W s' a r ∧ KS a s s' ∧ KB W s' ∧ LA W s' a r := by
  intro k
  induction k with
  | zero =>
    intro u n s h hL hv hu hn
    obtain ⟨n, rfl⟩ : ∃ m, n = m + 1 := ⟨n - 1, by omega⟩
    have h16 := p2_le h.p4
    have h1p : 1 ≤ 2 ^ pN W := Nat.one_le_two_pow
    refine ⟨s, ?_, fun v hv' => hv v (by omega), KS.rf a s, h, hL⟩
    show f_Ow_settle_b7 _ _ _ _ _ = _
    unfold f_Ow_settle_b7
    rw [if_pos (nI_lt (by omega) (by omega))]
  | succ k ih =>
    intro u n s h hL hv hu hn
    obtain ⟨n, rfl⟩ : ∃ m, n = m + 1 := ⟨n - 1, by omega⟩
    have h16 := p2_le h.p4
    have h1p : 1 ≤ 2 ^ pN W := Nat.one_le_two_pow
    obtain ⟨o1, ⟨r0, r1, r2, r3⟩, a1, a2, a3, a4⟩ := ow_ok h.b ha
    have f1 := ks_uI (a := a) s (b := a + 3) (k := u) 0 (by omega)
    have h1 := h.gf (f1.g ha)
    obtain ⟨o1', ⟨r0', r1', r2', r3'⟩, a1', a2', a3', a4'⟩ := ow_ok h1.b ha
    have f2 := ks_uI (a := a) (uI s (a + 3) u 0) (b := a + 4) (k := u) 0 (by omega)
    have h2 := h1.gf (f2.g ha)
    have L2 : LA W (uI (uI s (a + 3) u 0) (a + 4) u 0) a r := fun t' ht' => ⟨((mI_ne _ _ (by omega)).trans (mI_ne _ _ (by omega))).trans (hL t' ht').1, ((mI_ne _ _ (by omega)).trans (mI_ne _ _ (by omega))).trans (hL t' ht').2⟩
    have ht3 := h.t3
    obtain ⟨s3, e3, p1, p2, f3, h3, L3, v3⟩ := k_set29 ha hO (show u < 16 by omega) (f_Ow_settle_h7 n) (tN W) 0 zl_fl 0 0 _ h2 L2 ((mI_ne _ _ (by omega)).trans (mI_at _ _ _ _)) (mI_at _ _ _ _) (by omega) (zl_fl_lt (by omega))
    obtain ⟨s4, e4, p4, f4, h4, L4⟩ := ih (u + 1) n s3 h3 L3 (fun v hv' => by
      by_cases e : v = u
      · rw [e]; exact ⟨p1, p2⟩
      · rw [(v3 v e).1, (v3 v e).2, mI_ne _ _ (by omega), mI_ne _ _ (by omega), mI_ne _ _ (by omega), mI_ne _ _ (by omega)]
        exact hv v (by omega)) (by omega) (by omega)
    refine ⟨s4, ?_, p4, ((f1.trans f2).trans f3).trans f4, h4, L4⟩
    show f_Ow_settle_b7 _ _ _ _ _ = _
    unfold f_Ow_settle_b7
    simp only [f_ck_of o1, f_ck_of r2, f_ck_of a3, f_ck_of (vp_in_nI (show u < 16 by omega) (by decide)), nI_clamp (show u < 2 ^ 31 by omega), f_ck_of o1', f_ck_of r3', f_ck_of a4']
    rw [if_neg (nI_nlt (by omega) (by omega)), ← e4]
    exact e3
theorem k_settle {a r : Nat} (h : KB W s) (ha : a = 21 ∨ a = 26) (hO : LO W r) (hL : LA W s a r) : ∃ s', f_Ow_settle a s = some ((), s') ∧ KA W s' a r ∧ KS a s s' ∧ KB W s' ∧ LA W s' a r := by
  have h16 := p2_le h.p4
  unfold f_Ow_settle
  rw [f_ck_of h.b, f_bd_of (k_all h)]
  exact k_set7 ha hO (2 ^ pN W) 0 zl_fl s h hL (fun v hv => absurd hv (Nat.not_lt_zero _)) (by omega) (zl_fl_lt (by omega))
/-! an owning is given, and copied -/
theorem k_give {a t : Nat} (hb : zl_B s) (ha : a = 21 ∨ a = 26) (ht : t < 3) (ow nd : Int32) : f_Ow_give a (nI t) ow nd s = some ((), uI (uI s (a + 1) t ow) (a + 2) t nd) := by
  obtain ⟨o1, ⟨r0, r1, r2, r3⟩, a1, a2, a3, a4⟩ := ow_ok hb ha
  have f1 := ks_uI (a := a) s (b := a + 1) (k := t) ow (by omega)
  obtain ⟨o1', ⟨r0', r1', r2', r3'⟩, a1', a2', a3', a4'⟩ := ow_ok (f1.b hb) ha
  unfold f_Ow_give
  simp only [f_ck_of o1, f_ck_of r0, f_ck_of a1, f_ck_of (vp_in_nI ht (by decide)), nI_clamp (show t < 2 ^ 31 by omega), f_ck_of o1', f_ck_of r1', f_ck_of a2']
theorem KS.gv {a t : Nat} (s : Sg) (ow nd : Int32) : KS a s (uI (uI s (a + 1) t ow) (a + 2) t nd) := (ks_uI s (b := a + 1) ow (by omega)).trans (ks_uI _ (b := a + 2) nd (by omega))
theorem k_copy_h {a : Nat} (ha : a = 21 ∨ a = 26) : ∀ (k t n : Nat) (s : Sg), zl_B s → (∀ j, j < t → mI s (a + 1) j = mI s 13 j ∧ mI s (a + 2) j = mI s 14 j) → t + k = 3 → k < n → ∃ s', f_Ow_copyFrom_h2 n a (nI t) s = some ((), s') ∧ KS a s s' ∧ (∀ j, j < 3 → mI s' (a + 1) j = mI s 13 j ∧ mI s' (a + 2) j = mI s 14 j) := by
  intro k
  induction k with
  | zero =>
    intro t n s hb hj ht hn
    obtain ⟨n, rfl⟩ : ∃ m, n = m + 1 := ⟨n - 1, by omega⟩
    obtain rfl : t = 3 := by omega
    exact ⟨s, rfl, KS.rf a s, hj⟩
  | succ k ih =>
    intro t n s hb hj ht hn
    obtain ⟨n, rfl⟩ : ∃ m, n = m + 1 := ⟨n - 1, by omega⟩
    have f1 := KS.gv (a := a) (t := t) s (mI s 13 t) (mI s 14 t)
    have e13 : ∀ j, mI (uI (uI s (a + 1) t (mI s 13 t)) (a + 2) t (mI s 14 t)) 13 j = mI s 13 j ∧ mI (uI (uI s (a + 1) t (mI s 13 t)) (a + 2) t (mI s 14 t)) 14 j = mI s 14 j := fun j => ⟨(f1.2.2 13 j (by omega)).1, (f1.2.2 14 j (by omega)).1⟩
    obtain ⟨s2, e2, f2, g2⟩ := ih (t + 1) n _ (f1.b hb) (fun j hjt => by
      rw [(e13 j).1, (e13 j).2]
      by_cases e : j = t
      · rw [e, mI_at, mI_ne _ _ (by omega), mI_at]; exact ⟨rfl, rfl⟩
      · rw [mI_ne _ _ (by omega), mI_ne _ _ (by omega), mI_ne _ _ (by omega), mI_ne _ _ (by omega)]
        exact hj j (by omega)) (by omega) (by omega)
    refine ⟨s2, ?_, f1.trans f2, fun j hj3 => by rw [(g2 j hj3).1, (g2 j hj3).2]; exact e13 j⟩
    obtain ⟨o1, -⟩ := ow_ok hb ha
    show f_Ow_copyFrom_b2 _ _ _ _ = _
    unfold f_Ow_copyFrom_b2
    have i3 : vp_in (nI t) 3 := vp_in_nI (by omega) (by decide)
    rw [if_neg (show ¬ (3 : Int32) ≤ nI t from nI_ge (b := 3) (by omega) (by decide)), f_ck_of hb, f_ck_of i3, f_ck_of i3, f_ck_of o1, nI_clamp (by omega), f_bd_of (k_give hb ha (by omega) _ _), nI_1]
    exact e2
theorem k_copy {a : Nat} (hb : zl_B s) (ha : a = 21 ∨ a = 26) : ∃ s', f_Ow_copyFrom a s = some ((), s') ∧ KS a s s' ∧ (∀ j, j < 3 → mI s' (a + 1) j = mI s 13 j ∧ mI s' (a + 2) j = mI s 14 j) := by
  unfold f_Ow_copyFrom
  exact k_copy_h ha 3 0 zl_fl s hb (fun j hj => absurd hj (Nat.not_lt_zero _)) (by decide) (zl_fl_lt (by decide))
end
