/-! more plain questions to the model -/
section
theorem and_off : ∀ pn, pn ≤ 4 → ∀ p, p < pn → (nI (2 ^ pn - 1)) &&& ((nI (2 ^ p)) ^^^ (-1)) = nI (2 ^ pn - 1 - 2 ^ p) := by decide +kernel
variable {V : Vw} {s : Sg}
theorem m_leavingQ (h : RM V s) (x1 x2 : Int32) : QM V s (f_Mo_leaving x1 x2 s) (gB (bPP V x1 x2) (aLeaving V x1 x2)) (tB (bPP V x1 x2)) := by
  have hp4 := h.p4
  have h16 := p2_le h.p4
  have hn : QM V s (f_Mo_leaving_b22 x1 x2 1 s) 0 1 := by
    obtain ⟨s1, V1, e1, h1, f1, t1, w1, q1, M1⟩ := m_asT h 1
    unfold f_Mo_leaving_b22
    simp only [f_ck_of h.b, f_bd_of e1, f_ck_of h1.b, t1]
    rw [if_pos trivial]
    exact QM.mk rfl h1 f1 w1 t1
  unfold f_Mo_leaving f_Mo_leaving_b21 bPP aLeaving
  simp only [f_ck_of h.b, f_bd_of (m_isPerson h x1), ite10, f_bd_of (m_isPains h x2)]
  by_cases c : xb x1 (pN V) = true
  · rw [if_pos c]
    by_cases c2 : xpa V x2 = true
    · rw [if_pos c2, c, c2]
      show QM V s _ (sMk (askW V) 0 _ _ - sMk (askW V) 0 _ _) 0
      obtain ⟨p, hp, rfl⟩ := xb_t c (by omega)
      obtain ⟨q, hq, rfl, -⟩ := xpa_t h.w c2
      obtain ⟨s1, V1, e1, h1, f1, t1, w1, q1, M1⟩ := m_asT h 0
      unfold f_Mo_leaving_b22
      have e4 : ((1 : Int32) <<< ((mI s1 46 10) &&& 31)) - 1 = nI (2 ^ pN V - 1) := by rw [m_all h1, eqW_pN w1]
      have e6 := and_off _ hp4 p hp
      simp only [f_ck_of h.b, f_bd_of e1, f_ck_of h1.b, t1, e4, shl_p p (by omega), e6]
      have l1 : 2 ^ p ≤ 2 ^ pN V := Nat.pow_le_pow_right (by decide) (by omega)
      have l0 := Nat.two_pow_pos p
      rw [if_neg (by decide), nI_clamp (by omega), nI_clamp (by omega), ← cg_sMk q1.1 q1.2.1, ← cg_sMk q1.1 q1.2.1]
      have e5 : ∀ u, u < 16 → f_Mo_makesBy 0 (nI u) (nI q) s1 = _ := fun u hu => m_makesBy h1 (r := 0) (by decide) hu hq M1.1
      exact QM.mk (rn_bd (e5 _ (by omega)) (rn_ck h1.b (rn_bd (e5 _ (by omega)) rfl))) h1 f1 w1 t1
    · rw [if_neg c2]
      have e : (xb x1 (pN V) && xpa V x2) = false := by simp [c2]
      rw [e]; exact hn
  · rw [if_neg c]
    have e : (xb x1 (pN V) && xpa V x2) = false := by simp [c]
    rw [e]; exact hn
theorem m_worthQ (h : RM V s) (x1 x2 x3 : Int32) : QM V s (f_Mo_worth x1 x2 x3 s) (gB (bWorth V x1 x2 x3) (aWorth V x1 x2 x3)) (tB (bWorth V x1 x2 x3)) := by
  have ht3 := h.t3
  have hn : QM V s (f_Mo_worth_b36 x1 x2 x3 1 s) 0 1 := by
    obtain ⟨V1, h1, f1, w1, t1, -, q1⟩ := h.ten 1
    unfold f_Mo_worth_b36
    simp only [f_ck_of h.b, t1]
    rw [if_pos trivial]
    exact QM.mk rfl h1 f1 w1 t1
  unfold f_Mo_worth f_Mo_worth_b35 bWorth aWorth
  simp only [f_ck_of h.b, f_bd_of (m_areThem h x1), ite10, f_bd_of (m_isPains h x3), h.th, shl_p (tN V) (by omega)]
  by_cases c : xb x1 (2 ^ pN V) = true
  · rw [if_pos c]
    by_cases c1 : xb x2 (2 ^ tN V) = true
    · have c1' := c1
      simp only [xb, Bool.and_eq_true, Bool.not_eq_true', decide_eq_false_iff_not] at c1'
      rw [if_neg c1'.1, if_neg c1'.2]
      by_cases c2 : xpa V x3 = true
      · rw [if_pos c2, c, c1, c2]
        show QM V s _ (sWo (askW V) _ _ _) 0
        obtain ⟨q, hq, rfl, -⟩ := xpa_t h.w c2
        obtain ⟨V1, h1, f1, w1, t1, -, q1⟩ := h.ten 0
        unfold f_Mo_worth_b36
        simp only [f_ck_of h.b, t1]
        rw [if_neg (by decide), nI_clamp (by omega), ← cg_sWo q1]
        exact QM.mk (rn_bd (m_worthOf h1 hq _ _) rfl) h1 f1 w1 t1
      · rw [if_neg c2]
        have e : (xb x1 (2 ^ pN V) && (xb x2 (2 ^ tN V) && xpa V x3)) = false := by simp [c2]
        rw [e]; exact hn
    · have e : (xb x1 (2 ^ pN V) && (xb x2 (2 ^ tN V) && xpa V x3)) = false := by simp [c1]
      rw [e]
      by_cases c3 : x2 < 0
      · rw [if_pos c3]; exact hn
      · rw [if_neg c3]
        by_cases c4 : nI (2 ^ tN V) ≤ x2
        · rw [if_pos c4]; exact hn
        · exact absurd (by simp only [xb, Bool.and_eq_true, Bool.not_eq_true', decide_eq_false_iff_not]; exact ⟨c3, c4⟩) c1
  · rw [if_neg c]
    have e : (xb x1 (2 ^ pN V) && (xb x2 (2 ^ tN V) && xpa V x3)) = false := by simp [c]
    rw [e]; exact hn
/-- it was said that there is no throw -/
theorem RM.no (h : RM V s) : RM V (uI s 46 0 0) ∧ FO s (uI s 46 0 0) ∧ mI (uI s 46 0 0) 46 0 = 0 := ⟨h.sc 46 0 0 rfl, FO.uI s (a := 46) (k := 0) 0 (by decide), mI_at _ _ _ _⟩
theorem m_costQ (h : RM V s) (x1 x2 : Int32) : QM V s (f_Mo_cost x1 x2 s) (aCost V x1 x2) 0 := by
  obtain ⟨h1, f1, t1⟩ := h.no
  have hp4 := h.p4
  unfold f_Mo_cost aCost stp nB
  simp only [f_ck_of h.b, f_ck_of h1.b, f_bd_of (m_isPerson h1 x1), ite10]
  by_cases c : xb x1 (pN V) = true
  · obtain ⟨p, hp, rfl⟩ := xb_t c (by omega)
    have h3 := sN_le h hp
    rw [if_pos c, f_ck_of (vp_in_nI (by omega) (by decide) : vp_in (nI p) 8), nI_clamp (by omega), h1.st hp]
    simp only [f_bd_of (m_wi x2 0 (nI (sN V p))), ite10, f_ck_of h1.b]
    by_cases c2 : wi x2 0 (nI (sN V p)) = true
    · obtain ⟨k, hk, rfl⟩ := wi_t c2 (by omega)
      have e4 : (4 : Int32) * nI p + nI k = nI (4 * p + k) := by rw [show (4 : Int32) = nI 4 from rfl, nI_mul, nI_add]
      rw [if_pos c2, c, c2, if_pos (by rfl), e4, f_ck_of (vp_in_nI (by omega) (by decide) : vp_in (nI (4 * p + k)) 32), nI_clamp (by omega), nI_clamp (by omega), h1.co (by omega)]
      exact QM.mk rfl h1 f1 (eqW.rf V) t1
    · rw [if_neg c2, if_neg (by simp [c2])]
      exact QM.mk rfl h1 f1 (eqW.rf V) t1
  · rw [if_neg c, if_neg (by simp [c])]
    exact QM.mk rfl h1 f1 (eqW.rf V) t1
theorem m_ownerQ (h : RM V s) (x1 x2 : Int32) : QM V s (f_Mo_owner x1 x2 s) (aOwner V x1 x2) 0 := by
  obtain ⟨h1, f1, t1⟩ := h.no
  have ht3 := h.t3
  unfold f_Mo_owner f_Mo_owner_b22 aOwner nB
  simp only [f_ck_of h.b, f_ck_of h1.b, f_bd_of (m_isThing h1 x1), f_bd_of (m_wi x2 0 1), ite10]
  by_cases c : xb x1 (tN V) = true
  · obtain ⟨t, ht, rfl⟩ := xb_t c (by omega)
    rw [if_pos c]
    by_cases c2 : wi x2 0 1 = true
    · have i3 : vp_in (nI t) 3 := vp_in_nI (by omega) (by decide)
      rw [if_pos c2, c, c2, if_pos (show (true && true) = true from rfl), f_ck_of i3, f_ck_of i3, nI_clamp (by omega), h1.ar 69 rfl, h1.ar 70 rfl]
      by_cases c3 : x2 = 0
      · rw [if_pos c3, if_pos c3]; exact QM.mk rfl h1 f1 (eqW.rf V) t1
      · rw [if_neg c3, if_neg c3]; exact QM.mk rfl h1 f1 (eqW.rf V) t1
    · rw [if_neg c2, if_neg (by simp [c2])]
      exact QM.mk rfl h1 f1 (eqW.rf V) t1
  · rw [if_neg c, if_neg (by simp [c])]
    exact QM.mk rfl h1 f1 (eqW.rf V) t1
theorem m_hands_h (h : RM V s) : ∀ (k t n : Nat) (a : Int32), t + k = tN V → k < n → f_Mo_hands_h25 n a (nI t) s = some (sHandsL V k t a, s) := by
  have ht3 := h.t3
  intro k
  induction k with
  | zero =>
    intro t n a ht hn
    obtain ⟨n, rfl⟩ : ∃ m, n = m + 1 := ⟨n - 1, by omega⟩
    show f_Mo_hands_b25 _ _ _ _ = _
    unfold f_Mo_hands_b25
    rw [f_ck_of h.b, h.th, if_pos (nI_le (by omega) (by omega))]
    rfl
  | succ k ih =>
    intro t n a ht hn
    obtain ⟨n, rfl⟩ : ∃ m, n = m + 1 := ⟨n - 1, by omega⟩
    show f_Mo_hands_b25 _ _ _ _ = _
    unfold f_Mo_hands_b25
    rw [f_ck_of h.b, h.th, if_neg (nI_ge (by omega) (by omega)), f_ck_of (vp_in_nI (by omega) (by decide)), nI_clamp (by omega), h.ar 69 rfl, nI_1]
    exact ih (t + 1) n _ (by omega) (by omega)
theorem m_handsQ (h : RM V s) : QM V s (f_Mo_hands s) (aHands V) 0 := by
  obtain ⟨h1, f1, t1⟩ := h.no
  have ht3 := h.t3
  unfold f_Mo_hands aHands nB
  simp only [f_ck_of h.b, (pe_0 h1).2]
  by_cases c : bP V = true
  · rw [if_neg (fun h9 => h9 c), if_pos c, m_all h1]
    exact QM.mk (m_hands_h h1 (tN V) 0 zl_fl _ (by omega) (zl_fl_lt (by omega))) h1 f1 (eqW.rf V) t1
  · rw [if_pos c, if_neg c]
    exact QM.mk rfl h1 f1 (eqW.rf V) t1
/-! rest -/
def oN (o : Option (Nat × Nat)) : Nat := match o with
  | none => 0
  | some t => t.1
def oR (o : Option (Nat × Nat)) : Nat := match o with
  | none => 0
  | some t => t.2
def bRest (V : Vw) (x : Int32) : Bool := bP V && (wi x 0 2 && (sFar (askW V) 99 0).isSome)
def aRest (V : Vw) (x : Int32) : Int32 := if x = 0 then nI (oN (sFar (askW V) 99 0)) else if x = 1 then nI (oR (sFar (askW V) 99 0)) else sGood (askW V) (oN (sFar (askW V) 99 0))
theorem FO_th {s s1 : Sg} (h : FO s s1) (t : Int32) : FO s (uI s1 46 0 t) ∧ mI (uI s1 46 0 t) 46 0 = t := ⟨h.trans (FO.uI s1 (a := 46) (k := 0) t (by decide)), mI_at _ _ _ _⟩
theorem m_restQ (h : RM V s) (x : Int32) : QM V s (f_Mo_rest x s) (gB (bRest V x) (aRest V x)) (tB (bRest V x)) := by
  obtain ⟨s1, V1, e1, h1, f1, w1, -, q1, M1⟩ := m_asQ h
  have hb : bP V1 = bP V := by unfold bP; rw [eqW_pN w1]
  have hp4 := h.p4
  have hn : ∀ {s2 : Sg}, RM V1 s2 → FM s1 s2 → QM V s (f_Mo_rest_b41 x (-1) 1 s2) 0 1 := by
    intro s2 h2 f2
    unfold f_Mo_rest_b41
    have ft := FO_th (f1.1.trans f2.1) 1
    simp only [f_ck_of h2.b, ft.2]
    rw [if_pos trivial]
    exact QM.mk rfl (h2.sc 46 0 1 rfl) ft.1 w1 ft.2
  unfold f_Mo_rest f_Mo_rest_b20 f_Mo_rest_b30 bRest aRest
  simp only [f_ck_of h.b, f_bd_of e1, f_ck_of h1.b, (pe_0 h1).2, hb, f_bd_of (m_wi x 0 2), ite10]
  rw [if_neg (show ¬ (0 : Int32) ≤ -1 by decide)]
  by_cases c : bP V = true
  · rw [if_neg (fun h9 => h9 c)]
    by_cases c2 : wi x 0 2 = true
    · rw [if_pos c2, c, c2]
      obtain ⟨s2, e2, h2, f2, t2⟩ := m_turnsOut h1 M1
      rw [f_bd_of e2]
      rw [cg_sFar q1] at t2 ⊢
      have ft := FO_th (f1.1.trans f2.1) 0
      cases hf : sFar (askW V) 99 0 with
      | none =>
        rw [if_neg (show ¬ (0 : Int32) ≤ oI none by decide)]
        exact hn h2 f2
      | some t =>
        obtain ⟨t54, tl⟩ := t2 t hf
        rw [if_pos (show (0 : Int32) ≤ oI (some t) from nI_pos' (by omega))]
        unfold f_Mo_rest_b41
        simp only [f_ck_of h2.b, ft.2]
        rw [if_neg (by decide)]
        show QM V s _ (if x = 0 then nI t.1 else if x = 1 then nI t.2 else sGood (askW V) t.1) 0
        have h3 := h2.sc 46 0 0 rfl
        by_cases c3 : x = 0
        · rw [if_pos c3, if_pos c3]; exact QM.mk rfl h3 ft.1 w1 ft.2
        · rw [if_neg c3, if_neg c3]
          by_cases c4 : x = 1
          · rw [if_pos c4, if_pos c4]
            refine QM.mk ?_ h3 ft.1 w1 ft.2
            rw [mI_ne _ _ (by decide), t54]
          · rw [if_neg c4, if_neg c4, ← cg_sGood q1.1]
            exact QM.mk (rn_bd (m_goodOf h3 tl) rfl) h3 ft.1 w1 ft.2
    · rw [if_neg c2]
      have e : (bP V && (wi x 0 2 && (sFar (askW V) 99 0).isSome)) = false := by simp [c2]
      rw [e]; exact hn h1 (FM.rf s1)
  · rw [if_pos c]
    have e : (bP V && (wi x 0 2 && (sFar (askW V) 99 0).isSome)) = false := by simp [c]
    rw [e]; exact hn h1 (FM.rf s1)
end
