/-! questions about the owning as it is: the class -/
section
variable {V : Vw} {s : Sg}
theorem KT.ask {W : Vw} (h : KT W s) (he : eqW V W) (h39 : W 46 39 = 10) : KT (askW V) s := h.to (X := askW V) (fun b j hb => (kW_no hb).trans (he b j hb).symm) (kW_39.trans h39.symm) (Or.inl h39)
theorem askWV (h : KT (askW V) s) : WV V := WV_eqW h.1.w (fun b j hb => (kW_no hb).symm)
theorem k_gcd : ∀ (n t m a b : Nat), euT n a b = true → a < 2 ^ 63 → b < 2 ^ 63 → t + n < 128 → n < m → 0 < eu n a b → eu n a b < 2 ^ 63 → f_Wk_commonDivisor_h9 m (lN a) (lN b) (nI t) s = some (lN (eu n a b), s) := by
  have e45 : ∀ g, 0 < g → g < 2 ^ 63 → f_Wk_commonDivisor_b45 (lN g) s = some (lN g, s) := by
    intro g hg hg2
    unfold f_Wk_commonDivisor_b45
    rw [if_neg (fun h9 => by
      have h8 := (lg_cmp_le _ _).mp h9
      have h7 : lN g ≤ lN 0 := h8
      have := (pk_lLE hg2 (by decide)).mp h7
      omega)]
  have e0 : ∀ (m t a : Nat), t < 128 → 0 < a → a < 2 ^ 63 → f_Wk_commonDivisor_h9 (m + 1) (lN a) (lN 0) (nI t) s = some (lN a, s) := by
    intro m t a ht ha ha2
    show f_Wk_commonDivisor_b9 _ _ _ _ _ = _
    unfold f_Wk_commonDivisor_b9
    rw [if_neg (show ¬ (128 : Int32) ≤ nI t from nI_ge (b := 128) ht (by decide)), if_pos (show lg_cmp (lN 0) 0 ≤ 0 by decide)]
    exact e45 a ha ha2
  intro n
  induction n with
  | zero =>
    intro t m a b ht ha hb htn hm hg hg2
    obtain ⟨m, rfl⟩ : ∃ k, m = k + 1 := ⟨m - 1, by omega⟩
    have e : b = 0 := by simpa [euT] using ht
    subst e
    exact e0 m t a (by omega) hg ha
  | succ n ih =>
    intro t m a b ht ha hb htn hm hg hg2
    obtain ⟨m, rfl⟩ : ∃ k, m = k + 1 := ⟨m - 1, by omega⟩
    by_cases c : b = 0
    · subst c
      rw [show eu (n + 1) a 0 = a from rfl] at hg ⊢
      exact e0 m t a (by omega) hg ha
    · have h0 : ¬ lN b = 0 := fun h9 => c ((lN_0 hb).mp h9)
      have hle : ¬ lg_cmp (lN b) 0 ≤ 0 := fun h9 => by
        have h8 := (lg_cmp_le _ _).mp h9
        have h7 : lN b ≤ lN 0 := h8
        have := (pk_lLE hb (by decide)).mp h7
        omega
      rw [euT_s, if_neg c] at ht
      rw [eu_s, if_neg c] at hg hg2 ⊢
      have hl : a % b < b := Nat.mod_lt _ (by omega)
      show f_Wk_commonDivisor_b9 _ _ _ _ _ = _
      unfold f_Wk_commonDivisor_b9
      rw [if_neg (show ¬ (128 : Int32) ≤ nI t from nI_ge (b := 128) (by omega) (by decide)), if_neg hle, f_ck_of h0, pk_lRem ha (by omega) hb, nI_1]
      exact ih (t + 1) m b (a % b) ht hb (by omega) (by omega) (by omega) hg hg2
theorem k_share80 {y : Int64} (hy : bdL y 35184372088832) (x : Int32) : f_Wk_share_b80 x y (lN y.toInt.natAbs) s = some (some (aLow y x), s) := by
  have hg := @gcdL_of y.toInt.natAbs
  have h1 := hy.1
  have h2 := hy.2
  have e : f_Wk_commonDivisor (lN y.toInt.natAbs) 240 s = some (lN (gcdL y), s) := by
    unfold f_Wk_commonDivisor
    exact k_gcd 21 0 zl_fl y.toInt.natAbs 240 hg.1 (by omega) (by decide) (by decide) (zl_fl_lt (by decide)) hg.2.1 (by omega)
  have h0 : ¬ lN (gcdL y) = 0 := fun h9 => by
    unfold gcdL at h9
    have := (lN_0 (by omega)).mp h9
    omega
  unfold f_Wk_share_b80 aLow
  rw [f_bd_of e, f_ck_of h0, f_ck_of h0]
  by_cases c : x = 0
  · rw [if_pos c, if_pos c]
  · rw [if_neg c, if_neg c]
theorem kq_share (h : KT (askW V) s) (hp : PL V s) (x1 x2 x3 : Int32) : QK V s (f_Wk_share x1 x2 x3 s) (oB (bShare V x1 x2 x3) (aShare V x1 x2 x3)) := by
  have hp4 := h.1.p4
  have h256 := p4_le hp4
  have hn : bShare V x1 x2 x3 = false → QK V s (some ((none : Option Int64), s)) (oB (bShare V x1 x2 x3) (aShare V x1 x2 x3)) := by
    intro e
    rw [e]
    exact QK.mk hp rfl h (K0.rf s)
  unfold f_Wk_share
  simp only [f_ck_of h.1.b, f_bd_of (k_isPerson h.1 x1), f_bd_of (k_isPains h.1 x2), f_bd_of (k_isWithin (s := s) x3 1), ite10, ak_x]
  by_cases c1 : xb x1 (pN (askW V)) = true
  · rw [if_pos c1]
    by_cases c2 : xpa V x2 = true
    · rw [if_pos c2]
      by_cases c3 : wi x3 0 1 = true
      · have hb : bShare V x1 x2 x3 = true := by unfold bShare; rw [← ak_p, c1, c2, c3]; rfl
        rw [if_pos c3]
        rw [← ak_x] at c2
        obtain ⟨p, hpp, rfl⟩ := xb_t c1 (by omega)
        obtain ⟨q, hq, rfl, hv⟩ := xpa_t h.1.w c2
        obtain ⟨s1, e1, h1, y1⟩ := k_lookAsk (askWV h) h
        obtain ⟨s2, e2, h2, f2, g2⟩ := k_fill h1.1 (vpa_lt hv)
        have l2 := h1.fr f2 h2
        have e3 := k_shareOf h2 (Or.inl rfl) l2.2.1 hpp (vpa_lt hv) g2
        have hbd := sShI_bd h2.1.w 0 p q
        have hab := abs_of hbd (by decide)
        rw [f_bd_of e1, f_ck_of h1.1.1.b, f_bd_of e2, f_ck_of h2.1.b, f_bd_of e3, hb]
        unfold aShare
        rw [nI_clamp (by omega), nI_clamp (by omega)]
        refine QK.mk hp ?_ h2 (y1.z.trans f2.z)
        by_cases c : (0 : Int32) ≤ lg_cmp (sShI (askW V) 0 p q) 0
        · rw [if_pos c] at hab ⊢
          have := k_share80 (s := s2) hbd x3
          rw [← hab] at this
          exact this
        · rw [if_neg c] at hab ⊢
          rw [hab]
          exact k_share80 hbd x3
      · rw [if_neg c3]; exact hn (by unfold bShare; simp [c3])
    · rw [if_neg c2]; exact hn (by unfold bShare; simp [c2])
  · rw [if_neg c1]; exact hn (by rw [ak_p] at c1; unfold bShare; simp [c1])
theorem kq_would (h : KT (askW V) s) (hp : PL V s) (x1 x2 : Int32) : QK V s (f_Wk_would x1 x2 s) (aWould V x1 x2) := by
  have hp4 := h.1.p4
  have h256 := p4_le hp4
  unfold f_Wk_would aWould bPP nB
  simp only [f_ck_of h.1.b, f_bd_of (k_isPerson h.1 x1), f_bd_of (k_isPains h.1 x2), ite10, ak_x]
  rw [ak_p]
  by_cases c1 : xb x1 (pN V) = true
  · rw [if_pos c1]
    by_cases c2 : xpa V x2 = true
    · rw [if_pos c2, c1, c2, if_pos (show (true && true) = true from rfl)]
      rw [← ak_p] at c1
      rw [← ak_x] at c2
      obtain ⟨p, hpp, rfl⟩ := xb_t c1 (by omega)
      obtain ⟨q, hq, rfl, hv⟩ := xpa_t h.1.w c2
      obtain ⟨s1, e1, h1, y1⟩ := k_lookAsk (askWV h) h
      obtain ⟨s2, e2, h2, f2, -⟩ := k_chosen h1 false hpp hv
      have hw := sWld_le (askW V) p q
      have h3 := (h.1.w.2.2.2.1 p hpp).2.2
      have ec : kCh (askW V) p q false = sTk q p (sWld (askW V) p q) := rfl
      have e3 : f_Wk_stepIn (nI (sTk q p (sWld (askW V) p q))) (nI p) s2 = some (nI (sWld (askW V) p q), s2) := by
        rw [k_stepIn (tk_lt hq (by omega) (by omega)) (by omega), tk_st (by omega) (by omega)]
      rw [ec] at e2
      rw [f_bd_of e1, f_ck_of h1.1.1.b, f_bd_of (show f_Tu_chosen (nI p) (nI q) 0 s1 = _ from e2), f_bd_of e3, nI_clamp (by omega), nI_clamp (by omega)]
      exact QK.mk hp rfl h2.1 (y1.z.trans f2.z)
    · rw [if_neg c2, if_neg (by simp [c2])]; exact QK.mk hp rfl h (K0.rf s)
  · rw [if_neg c1, if_neg (by simp [c1])]; exact QK.mk hp rfl h (K0.rf s)
theorem kq_isRest (h : KT (askW V) s) (hp : PL V s) (x : Int32) : QK V s (f_Wk_isRest x s) (aIsRest V x) := by
  have h256 := p4_le h.1.p4
  unfold f_Wk_isRest aIsRest nB
  simp only [f_ck_of h.1.b, f_bd_of (k_isNobody h.1), f_bd_of (k_isPains h.1 x), ite10, ite01, ak_b, ak_x]
  by_cases c : bP V = true
  · rw [if_pos c]
    by_cases c2 : xpa V x = true
    · rw [if_pos c2, c, c2, if_pos (show (true && true) = true from rfl)]
      rw [← ak_x] at c2
      obtain ⟨q, hq, rfl, hv⟩ := xpa_t h.1.w c2
      obtain ⟨s1, e1, h1, y1⟩ := k_lookAsk (askWV h) h
      obtain ⟨s2, e2, h2, f2⟩ := k_isSettled h1 hv
      rw [f_bd_of e1, f_ck_of h1.1.1.b, f_bd_of e2, nI_clamp (by omega)]
      refine QK.mk hp ?_ h2.1 (y1.z.trans f2.z)
      unfold b2i
      by_cases c3 : sRestS (askW V) q = true
      · rw [if_pos c3, if_neg (by decide)]
      · rw [if_neg c3, if_pos rfl]
    · rw [if_neg c2, if_neg (by simp [c2])]; exact QK.mk hp rfl h (K0.rf s)
  · rw [if_neg c, if_neg (by simp [c])]; exact QK.mk hp rfl h (K0.rf s)
theorem oI_ne {o : Option (Nat × Nat)} (h : ∀ t, o = some t → t.1 < 256) : (oI o = -1 ↔ o = none) := by
  cases o with
  | none => exact ⟨fun _ => rfl, fun _ => rfl⟩
  | some t =>
    have := h t rfl
    refine ⟨fun e => ?_, fun e => by cases e⟩
    have h1 : ¬ nI t.1 < 0 := nI_pos (by omega)
    have e' : nI t.1 = -1 := e
    rw [e'] at h1
    exact absurd (by decide) h1
theorem vpa_256 {W : Vw} (hp4 : pN W ≤ 4) {q : Nat} (hq : vpa W q = true) : q < 256 := by
  have := vpa_lt hq
  have := p4_le hp4
  omega
theorem kq_rest (h : KT (askW V) s) (hp : PL V s) (x : Int32) : QK V s (f_Wk_rest x s) (oB (bRest V x) (aRest V x)) := by
  unfold f_Wk_rest bRest aRest
  simp only [f_ck_of h.1.b, f_bd_of (k_isNobody h.1), f_bd_of (k_isWithin (s := s) x 2), ite10, ite01, ak_b]
  by_cases c : bP V = true
  · rw [if_pos c]
    by_cases c2 : wi x 0 2 = true
    · rw [if_pos c2, c, c2, Bool.true_and, Bool.true_and]
      obtain ⟨s1, e1, h1, y1⟩ := k_lookAsk (askWV h) h
      obtain ⟨s2, e2, h2, f2, t2⟩ := k_byTurns h1
      have hne := oI_ne (o := sFar (askW V) 99 0) (fun t ht => vpa_256 h.1.p4 (t2 t ht).2.1)
      rw [f_bd_of e1, f_ck_of h1.1.1.b, f_bd_of e2]
      cases hf : sFar (askW V) 99 0 with
      | none =>
        rw [hf] at hne
        rw [if_pos (hne.mpr rfl)]
        exact QK.mk hp rfl h2.1 (y1.z.trans f2.z)
      | some t =>
        rw [hf] at hne
        obtain ⟨t8, tv, -⟩ := t2 t hf
        rw [if_neg (fun h9 => by have := hne.mp h9; cases this), f_ck_of h2.1.1.b, f_ck_of h2.1.1.b, t8]
        by_cases c3 : x = 0
        · rw [if_pos c3]
          show QK V s _ (some (if x = 0 then nI t.1 else if x = 1 then nI t.2 else sGood (askW V) t.1))
          rw [if_pos c3]
          exact QK.mk hp rfl h2.1 (y1.z.trans f2.z)
        · rw [if_neg c3]
          show QK V s _ (some (if x = 0 then nI t.1 else if x = 1 then nI t.2 else sGood (askW V) t.1))
          rw [if_neg c3]
          by_cases c4 : x = 1
          · rw [if_pos c4, if_pos c4]
            exact QK.mk hp rfl h2.1 (y1.z.trans f2.z)
          · obtain ⟨s3, e3, h3, f3⟩ := k_goodOf h2.1 (vpa_lt tv)
            rw [if_neg c4, if_neg c4, f_bd_of (show f_Wo_goodOf (oI (some t)) s2 = _ from e3)]
            exact QK.mk hp rfl h3 ((y1.z.trans f2.z).trans f3.z)
    · have e : (bP V && (wi x 0 2 && (sFar (askW V) 99 0).isSome)) = false := by simp [c2]
      rw [if_neg c2, e]; exact QK.mk hp rfl h (K0.rf s)
  · have e : (bP V && (wi x 0 2 && (sFar (askW V) 99 0).isSome)) = false := by simp [c]
    rw [if_neg c, e]; exact QK.mk hp rfl h (K0.rf s)
theorem kq_written (h : KT (askW V) s) (hp : PL V s) (x1 x2 : Int32) : QK V s (f_Wk_written x1 x2 s) (oB (bWritten V x1 x2) (aWritten V x1 x2)) := by
  have hp4 := h.1.p4
  unfold f_Wk_written bWritten aWritten
  simp only [f_ck_of h.1.b, f_bd_of (k_isStep h.1 x1 x2), ite10, ak_st]
  by_cases c : stp V x1 x2 = true
  · rw [if_pos c, c, Bool.true_and]
    have c' := c
    rw [← ak_st] at c'
    unfold stp at c'
    rw [Bool.and_eq_true] at c'
    obtain ⟨p, hpp, rfl⟩ := xb_t c'.1 (by omega)
    have h3 := (h.1.w.2.2.2.1 p hpp).2.2
    rw [nI_clamp (by omega)] at c'
    obtain ⟨st, hst, rfl⟩ := wi_t c'.2 (by omega)
    obtain ⟨s1, e1, h1, y1⟩ := k_lookAsk (askWV h) h
    obtain ⟨s2, e2, h2, f2, t2⟩ := k_byTurnsK h1 hpp hst
    have hne := oI_ne (o := sFar (askW V) p (st * 4 ^ p)) (fun t ht => vpa_256 h.1.p4 (t2 t ht).2.1)
    rw [f_bd_of e1, f_ck_of h1.1.1.b, f_bd_of e2]
    unfold wrO gP
    rw [nI_clamp (by omega), nI_clamp (by omega)]
    cases hf : sFar (askW V) p (st * 4 ^ p) with
    | none =>
      rw [hf] at hne
      rw [if_pos (hne.mpr rfl)]
      exact QK.mk hp rfl h2.1 (y1.z.trans f2.z)
    | some t =>
      rw [hf] at hne
      obtain ⟨t8, tv, -⟩ := t2 t hf
      obtain ⟨s3, e3, h3, f3⟩ := k_goodOf h2.1 (vpa_lt tv)
      rw [if_neg (fun h9 => by have := hne.mp h9; cases this), f_ck_of h2.1.1.b, f_bd_of (show f_Wo_goodOf (oI (some t)) s2 = _ from e3)]
      exact QK.mk hp rfl h3 ((y1.z.trans f2.z).trans f3.z)
  · have e : (stp V x1 x2 && (wrO V x1.toNatClampNeg x2.toNatClampNeg).isSome) = false := by simp [c]
    rw [if_neg c, e]; exact QK.mk hp rfl h (K0.rf s)
/-! all rests -/
theorem k_rests_hi (h : LK (askW V) s) (x : Int32) : ∀ (k q n : Nat) (o : Rs), 4 ^ pN (askW V) ≤ q → q + k = 256 → k < n → f_Wk_rests_h34 n x (rsN o) (rsA o) (rsB o) (nI q) s = f_Wk_rests_b131 x (rsN o) (rsA o) (rsB o) s := by
  intro k
  induction k with
  | zero =>
    intro q n o h4 hq hn
    obtain ⟨n, rfl⟩ : ∃ m, n = m + 1 := ⟨n - 1, by omega⟩
    show f_Wk_rests_b34 _ _ _ _ _ _ _ = _
    unfold f_Wk_rests_b34
    rw [if_pos (show (256 : Int32) ≤ nI q from nI_le (a := 256) (by omega) (by omega))]
  | succ k ih =>
    intro q n o h4 hq hn
    obtain ⟨n, rfl⟩ : ∃ m, n = m + 1 := ⟨n - 1, by omega⟩
    have hv : ¬ vpa (askW V) q = true := fun h9 => by have := vpa_lt h9; omega
    show f_Wk_rests_b34 _ _ _ _ _ _ _ = _
    unfold f_Wk_rests_b34
    rw [if_neg (show ¬ (256 : Int32) ≤ nI q from nI_ge (b := 256) (by omega) (by decide)), f_ck_of h.1.1.b, f_bd_of (k_isPainsN h.1.1 (show q < 2 ^ 31 by omega)), ite10, if_neg hv]
    unfold f_Wk_rests_b125
    rw [nI_1]
    exact ih (q + 1) n o (by omega) (by omega) (by omega)
theorem rsA_ne {o : Rs} {q : Nat} (hq : q ≤ 256) (ho : rsOk q o) : (rsA o = -1 ↔ o = none) ∧ (rsB o = -1 ↔ o = none) := by
  cases o with
  | none => exact ⟨⟨fun _ => rfl, fun _ => rfl⟩, ⟨fun _ => rfl, fun _ => rfl⟩⟩
  | some t =>
    obtain ⟨h1, h2, h3, h4⟩ := ho t rfl
    have k : ∀ j : Nat, j < 256 → ¬ nI j = -1 := fun j hj e => by
      have h1 : ¬ nI j < 0 := nI_pos (by omega)
      rw [e] at h1
      exact absurd (by decide) h1
    exact ⟨⟨fun e => absurd e (k _ (by omega)), fun e => by cases e⟩, ⟨fun e => absurd e (k _ (by omega)), fun e => by cases e⟩⟩
theorem k_rests_h (x : Int32) : ∀ (k q n : Nat) (o : Rs) (s : Sg), LK (askW V) s → rsOk q o → q + k = 4 ^ pN (askW V) → k + (256 - 4 ^ pN (askW V)) < n → ∃ s', f_Wk_rests_h34 n x (rsN o) (rsA o) (rsB o) (nI q) s = f_Wk_rests_b131 x (rsN (rsL (askW V) k q o)) (rsA (rsL (askW V) k q o)) (rsB (rsL (askW V) k q o)) s' ∧ LK (askW V) s' ∧ KF s s' := by
  intro k
  induction k with
  | zero =>
    intro q n o s h ho hq hn
    have h256 := p4_le h.1.1.p4
    exact ⟨s, k_rests_hi h x (256 - 4 ^ pN (askW V)) q n o (by omega) (by omega) (by omega), h, KF.rf s⟩
  | succ k ih =>
    intro q n o s h ho hq hn
    obtain ⟨n, rfl⟩ : ∃ m, n = m + 1 := ⟨n - 1, by omega⟩
    have h256 := p4_le h.1.1.p4
    have hi := fun s1 h1 => ih (q + 1) n (rsS (askW V) q o) s1 h1 (rsOk_s _ ho) (by omega) (by omega)
    show ∃ s', f_Wk_rests_b34 _ _ _ _ _ _ _ = f_Wk_rests_b131 x (rsN (rsL (askW V) k (q + 1) (rsS (askW V) q o))) (rsA (rsL (askW V) k (q + 1) (rsS (askW V) q o))) (rsB (rsL (askW V) k (q + 1) (rsS (askW V) q o))) s' ∧ _
    unfold f_Wk_rests_b34
    rw [if_neg (show ¬ (256 : Int32) ≤ nI q from nI_ge (b := 256) (by omega) (by decide)), f_ck_of h.1.1.b, f_bd_of (k_isPainsN h.1.1 (show q < 2 ^ 31 by omega)), ite10]
    unfold rsS at hi ⊢
    by_cases c1 : vpa (askW V) q = true
    · obtain ⟨s1, e1, h1, f1⟩ := k_isSettled h c1
      rw [if_pos c1, f_ck_of h.1.1.b, f_bd_of e1]
      by_cases c2 : sRestS (askW V) q = true
      · have c3 : (vpa (askW V) q && sRestS (askW V) q) = true := by rw [c1, c2]; rfl
        rw [c2, if_neg (show ¬ b2i true = 0 by decide), f_ck_of h1.1.1.b]
        rw [c2] at hi
        simp only [c1, Bool.true_and, if_true] at hi ⊢
        obtain ⟨s2, e2, h2, f2⟩ := k_goodOf h1.1 (vpa_lt c1)
        have l2 := h1.fr f2 h2
        rw [f_bd_of e2]
        obtain ⟨ka, kb⟩ := rsA_ne (show q ≤ 256 by omega) ho
        unfold f_Wk_rests_b98 f_Wk_rests_b101 f_Wk_rests_b121 f_Wk_rests_b125
        cases o with
        | none =>
          rw [if_pos (ka.mpr rfl), if_pos (kb.mpr rfl), nI_1]
          obtain ⟨s3, e3, h3, f3⟩ := hi s2 l2
          exact ⟨s3, e3, h3, (f1.trans f2).trans f3⟩
        | some t =>
          obtain ⟨o1, o2, o3, o4⟩ := ho t rfl
          obtain ⟨s3, e3, h3, f3⟩ := k_goodOf h2 (q := t.2.1) (by omega)
          obtain ⟨s4, e4, h4, f4⟩ := k_goodOf h3 (q := t.2.2) (by omega)
          have l4 := (l2.fr f3 h3).fr f4 h4
          have ff := ((f1.trans f2).trans f3).trans f4
          rw [if_neg (fun h9 => by have := ka.mp h9; cases this), f_ck_of h2.1.b, f_bd_of (show f_Wo_goodOf (rsA (some t)) s2 = _ from e3)]
          have en : rsN (some t) + 1 = nI (t.1 + 1) := nI_1 _
          have e4' : f_Wo_goodOf (rsB (some t)) s3 = some (sGood (askW V) t.2.2, s4) := e4
          have kbn : ¬ rsB (some t) = -1 := fun h9 => by have := kb.mp h9; cases this
          simp only [if_neg kbn, f_ck_of h3.1.b, f_bd_of e4', en, nI_1]
          obtain ⟨s5, e5, h5, f5⟩ := hi s4 l4
          refine ⟨s5, Eq.trans ?_ e5, h5, ff.trans f5⟩
          show _ = f_Wk_rests_h34 n x (nI (t.1 + 1)) (nI (if sGood (askW V) t.2.1 ≤ sGood (askW V) q then t.2.1 else q)) (nI (if sGood (askW V) q ≤ sGood (askW V) t.2.2 then t.2.2 else q)) (nI (q + 1)) s4
          by_cases d1 : sGood (askW V) t.2.1 ≤ sGood (askW V) q
          · by_cases d2 : sGood (askW V) q ≤ sGood (askW V) t.2.2
            · simp only [if_pos d1, if_pos d2] <;> rfl
            · simp only [if_pos d1, if_neg d2] <;> rfl
          · by_cases d2 : sGood (askW V) q ≤ sGood (askW V) t.2.2
            · simp only [if_neg d1, if_pos d2] <;> rfl
            · simp only [if_neg d1, if_neg d2] <;> rfl
      · have c2' : sRestS (askW V) q = false := by simpa using c2
        have c3 : ¬ (vpa (askW V) q && sRestS (askW V) q) = true := by simp [c2]
        rw [c2', if_pos (show b2i false = 0 from rfl)]
        simp only [c2', Bool.and_false] at hi ⊢
        unfold f_Wk_rests_b125
        rw [nI_1]
        obtain ⟨s3, e3, h3, f3⟩ := hi s1 h1
        exact ⟨s3, e3, h3, f1.trans f3⟩
    · have c1' : vpa (askW V) q = false := by simpa using c1
      rw [if_neg c1]
      simp only [c1', Bool.false_and] at hi ⊢
      unfold f_Wk_rests_b125
      rw [nI_1]
      exact hi s h
theorem kq_rests (h : KT (askW V) s) (hp : PL V s) (x : Int32) : QK V s (f_Wk_rests x s) (aRests V x) := by
  have h256 := p4_le h.1.p4
  unfold f_Wk_rests aRests nB
  simp only [f_ck_of h.1.b, f_bd_of (k_isNobody h.1), f_bd_of (k_isWithin (s := s) x 2), ite10, ite01, ak_b]
  by_cases c : bP V = true
  · rw [if_pos c]
    by_cases c2 : wi x 0 2 = true
    · rw [if_pos c2, c, c2, if_pos (show (true && true) = true from rfl)]
      obtain ⟨s1, e1, h1, y1⟩ := k_lookAsk (askWV h) h
      obtain ⟨s2, e2, h2, f2⟩ := k_rests_h (V := V) x (4 ^ pN (askW V)) 0 zl_fl none s1 h1 (fun t ht => by cases ht) (by omega) (zl_fl_lt (by omega))
      rw [f_bd_of e1]
      have e2' : f_Wk_rests_h34 zl_fl x 0 (-1) (-1) 0 s1 = _ := e2
      rw [ak_p] at e2'
      rw [e2']
      refine QK.mk hp ?_ h2.1 (y1.z.trans f2.z)
      unfold f_Wk_rests_b131
      by_cases d0 : x = 0
      · rw [if_pos d0, if_pos d0]
      · rw [if_neg d0, if_neg d0]
        by_cases d1 : x = 1
        · rw [if_pos d1, if_pos d1]
        · rw [if_neg d1, if_neg d1]
    · rw [if_neg c2, if_neg (by simp [c2])]; exact QK.mk hp rfl h (K0.rf s)
  · rw [if_neg c, if_neg (by simp [c])]; exact QK.mk hp rfl h (K0.rf s)
end
