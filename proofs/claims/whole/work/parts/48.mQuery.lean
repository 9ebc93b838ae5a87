/-! the plain questions to the model -/
section
def wi (x a b : Int32) : Bool := !decide (x < a) && !decide (b < x)
def stp (V : Vw) (x1 x2 : Int32) : Bool := xb x1 (pN V) && wi x2 0 (nI (sN V x1.toNatClampNeg))
def tB (b : Bool) : Int32 := if b = true then 0 else 1
def gB (b : Bool) (x : Int32) : Int32 := if b = true then x else 0
def nB (b : Bool) (x : Int32) : Int32 := if b = true then x else -1
def aHas (V : Vw) (x : Int32) : Int32 := nB (xb x (2 ^ pN V)) (nI (sHas (askW V) 0 x.toNatClampNeg))
def bMakes (V : Vw) (x1 x2 : Int32) : Bool := xb x1 (2 ^ pN V) && xpa V x2
def aMakes (V : Vw) (x1 x2 : Int32) : Int32 := sMk (askW V) 0 x1.toNatClampNeg x2.toNatClampNeg
def bPP (V : Vw) (x1 x2 : Int32) : Bool := xb x1 (pN V) && xpa V x2
def aWould (V : Vw) (x1 x2 : Int32) : Int32 := nB (bPP V x1 x2) (nI (sWld (askW V) x1.toNatClampNeg x2.toNatClampNeg))
def bP (V : Vw) : Bool := decide (0 < pN V)
def aIsRest (V : Vw) (x : Int32) : Int32 := nB (bP V && xpa V x) (b2i (sRestS (askW V) x.toNatClampNeg))
def bGood (V : Vw) (x : Int32) : Bool := bP V && xpa V x
def aGood (V : Vw) (x : Int32) : Int32 := sGood (askW V) x.toNatClampNeg
def aBest (V : Vw) (x : Int32) : Int32 := if x = 0 then nI (sBest (askW V)) else sGood (askW V) (sBest (askW V))
def aLost (V : Vw) (x : Int32) : Int32 := nB (bGood V x) (sGood (askW V) (sBest (askW V)) - sGood (askW V) x.toNatClampNeg)
def aLeaving (V : Vw) (x1 x2 : Int32) : Int32 := sMk (askW V) 0 (2 ^ pN V - 1) x2.toNatClampNeg - sMk (askW V) 0 (2 ^ pN V - 1 - 2 ^ x1.toNatClampNeg) x2.toNatClampNeg
def bWorth (V : Vw) (x1 x2 x3 : Int32) : Bool := xb x1 (2 ^ pN V) && (xb x2 (2 ^ tN V) && xpa V x3)
def aWorth (V : Vw) (x1 x2 x3 : Int32) : Int32 := sWo (askW V) x1 x2 x3.toNatClampNeg
def aCost (V : Vw) (x1 x2 : Int32) : Int32 := nB (stp V x1 x2) (V 50 (4 * x1.toNatClampNeg + x2.toNatClampNeg))
def aOwner (V : Vw) (x1 x2 : Int32) : Int32 := nB (xb x1 (tN V) && wi x2 0 1) (if x2 = 0 then V 69 x1.toNatClampNeg else V 70 x1.toNatClampNeg)
def sHandsL (V : Vw) : Nat → Nat → Int32 → Int32
  | 0, _, a => a
  | k + 1, t, a => sHandsL V k (t + 1) (a &&& (V 69 t ^^^ (-1)))
def aHands (V : Vw) : Int32 := nB (bP V) (sHandsL V (tN V) 0 (nI (2 ^ pN V - 1)))
theorem tB_t (x : Int32) : tB true = 0 ∧ gB true x = x ∧ nB true x = x := ⟨rfl, rfl, rfl⟩
theorem tB_f (x : Int32) : tB false = 1 ∧ gB false x = 0 ∧ nB false x = -1 := ⟨rfl, rfl, rfl⟩
theorem wi_t {x : Int32} {m : Nat} (h : wi x 0 (nI m) = true) (hm : m < 2 ^ 31) : ∃ k : Nat, k ≤ m ∧ x = nI k := by
  simp only [wi, Bool.and_eq_true, Bool.not_eq_true', decide_eq_false_iff_not] at h
  obtain ⟨k, hk, rfl⟩ := nI_of h.1
  exact ⟨k, Nat.le_of_not_lt fun h9 => h.2 ((nI_ltI hm hk).mpr h9), rfl⟩
variable {V : Vw} {s : Sg}
theorem m_wi (x a b : Int32) : f_Mo_within x a b s = some (if wi x a b = true then 1 else 0, s) := by
  unfold f_Mo_within wi
  by_cases h1 : x < a
  · simp [h1]
  · by_cases h2 : b < x <;> simp [h1, h2]
theorem pe_0 (h : RM V s) : (mI s 46 10 ≤ 0 ↔ ¬ bP V = true) ∧ (mI s 46 10 = 0 ↔ ¬ bP V = true) := by
  have hp4 := h.p4
  rw [h.pe]
  unfold bP
  by_cases c : 0 < pN V
  · have h1 : ¬ nI (pN V) = 0 := nI_ne0 c (by omega)
    have h2 : ¬ nI (pN V) ≤ 0 := nI_ge (a := 0) c (by omega)
    simp [h1, h2, c]
  · obtain e : pN V = 0 := by omega
    rw [e]; decide
theorem m_hasQ (h : RM V s) (x : Int32) : QM V s (f_Mo_has x s) (aHas V x) 0 := by
  obtain ⟨s1, V1, e1, h1, f1, t1, w1, q1, M1⟩ := m_asT h 0
  unfold f_Mo_has aHas nB
  simp only [f_ck_of h.b, f_ck_of (h.sc 46 0 0 rfl).b, f_bd_of e1, f_ck_of h1.b, f_bd_of (m_areThem h1 x), ite10, (eqW_xb w1 x).2.2]
  have h16 := p2_le h.p4
  by_cases c : xb x (2 ^ pN V) = true
  · obtain ⟨u, hu, rfl⟩ := xb_t c (by omega)
    rw [if_pos c, if_pos c, nI_clamp (by omega), ← cg_sHas q1.1 q1.2.1]
    have e5 : f_Mo_hasBy 0 (nI u) s1 = _ := m_hasBy h1 (r := 0) (u := u) (by decide) (by omega) M1.1
    exact QM.mk (rn_bd e5 rfl) h1 f1 w1 t1
  · rw [if_neg c, if_neg c]
    exact QM.mk rfl h1 f1 w1 t1
theorem m_makesQ (h : RM V s) (x1 x2 : Int32) : QM V s (f_Mo_makes x1 x2 s) (gB (bMakes V x1 x2) (aMakes V x1 x2)) (tB (bMakes V x1 x2)) := by
  have h16 := p2_le h.p4
  have hn : QM V s (f_Mo_makes_b22 x1 x2 1 s) 0 1 := by
    obtain ⟨s1, V1, e1, h1, f1, t1, w1, q1, M1⟩ := m_asT h 1
    unfold f_Mo_makes_b22
    simp only [f_ck_of h.b, f_bd_of e1, f_ck_of h1.b, t1]
    rw [if_pos trivial]
    exact QM.mk rfl h1 f1 w1 t1
  unfold f_Mo_makes f_Mo_makes_b21 bMakes aMakes
  simp only [f_ck_of h.b, f_bd_of (m_areThem h x1), ite10, f_bd_of (m_isPains h x2)]
  by_cases c : xb x1 (2 ^ pN V) = true
  · rw [if_pos c]
    by_cases c2 : xpa V x2 = true
    · rw [if_pos c2, c, c2]
      show QM V s _ (sMk (askW V) 0 _ _) 0
      obtain ⟨u, hu, rfl⟩ := xb_t c (by omega)
      obtain ⟨q, hq, rfl, -⟩ := xpa_t h.w c2
      obtain ⟨s1, V1, e1, h1, f1, t1, w1, q1, M1⟩ := m_asT h 0
      unfold f_Mo_makes_b22
      simp only [f_ck_of h.b, f_bd_of e1, f_ck_of h1.b, t1]
      rw [if_neg (by decide), nI_clamp (by omega), nI_clamp (by omega), ← cg_sMk q1.1 q1.2.1]
      have e5 : f_Mo_makesBy 0 (nI u) (nI q) s1 = _ := m_makesBy h1 (r := 0) (by decide) (by omega) hq M1.1
      exact QM.mk (rn_bd e5 rfl) h1 f1 w1 t1
    · rw [if_neg c2]
      have e : (xb x1 (2 ^ pN V) && xpa V x2) = false := by simp [c2]
      rw [e]; exact hn
  · rw [if_neg c]
    have e : (xb x1 (2 ^ pN V) && xpa V x2) = false := by simp [c]
    rw [e]; exact hn
theorem m_wouldQ (h : RM V s) (x1 x2 : Int32) : QM V s (f_Mo_would x1 x2 s) (aWould V x1 x2) 0 := by
  obtain ⟨s1, V1, e1, h1, f1, t1, w1, q1, M1⟩ := m_asT h 0
  have hp4 := h.p4
  unfold f_Mo_would aWould bPP nB
  simp only [f_ck_of h.b, f_ck_of (h.sc 46 0 0 rfl).b, f_bd_of e1, f_ck_of h1.b, f_bd_of (m_isPerson h1 x1), f_bd_of (m_isPains h1 x2), ite10, (eqW_xb w1 x1).1, eqW_xpa w1 x2]
  by_cases c : xb x1 (pN V) = true
  · rw [if_pos c]
    by_cases c2 : xpa V x2 = true
    · obtain ⟨p, hp, rfl⟩ := xb_t c (by omega)
      obtain ⟨q, hq, rfl, -⟩ := xpa_t h.w c2
      rw [if_pos c2, c, c2, if_pos (by rfl), nI_clamp (by omega), nI_clamp (by omega), ← cg_sWld q1]
      have e5 := m_wouldOf h1 M1 (p := p) (q := q) (by rw [eqW_pN w1]; exact hp) hq
      exact QM.mk (rn_bd e5 rfl) h1 f1 w1 t1
    · rw [if_neg c2, if_neg (by simp [c2])]
      exact QM.mk rfl h1 f1 w1 t1
  · rw [if_neg c, if_neg (by simp [c])]
    exact QM.mk rfl h1 f1 w1 t1
theorem m_isRestQ (h : RM V s) (x : Int32) : QM V s (f_Mo_isRest x s) (aIsRest V x) 0 := by
  obtain ⟨s1, V1, e1, h1, f1, t1, w1, q1, M1⟩ := m_asT h 0
  have hp4 := h.p4
  have hb : bP V1 = bP V := by unfold bP; rw [eqW_pN w1]
  unfold f_Mo_isRest aIsRest nB
  simp only [f_ck_of h.b, f_ck_of (h.sc 46 0 0 rfl).b, f_bd_of e1, f_ck_of h1.b, (pe_0 h1).1, f_bd_of (m_isPains h1 x), ite10, hb, eqW_xpa w1 x]
  by_cases c : bP V = true
  · rw [if_neg (fun h9 => h9 c)]
    by_cases c2 : xpa V x = true
    · obtain ⟨q, hq, rfl, -⟩ := xpa_t h.w c2
      rw [if_pos c2, c, c2, if_pos (by rfl), nI_clamp (by omega), ← cg_sRestS q1]
      simp only [f_bd_of (m_areAtRest h1 M1 hq), ite10]
      refine QM.mk ?_ h1 f1 w1 t1
      unfold b2i
      by_cases c3 : sRestS V1 q = true
      · rw [if_pos c3, if_pos c3]
      · rw [if_neg c3, if_neg c3]
    · rw [if_neg c2, if_neg (by simp [c2])]
      exact QM.mk rfl h1 f1 w1 t1
  · rw [if_pos c, if_neg (by simp [c])]
    exact QM.mk rfl h1 f1 w1 t1
/-- the tenths are ten, and it was said whether there is a throw -/
theorem RM.ten (h : RM V s) (t : Int32) : ∃ V', RM V' (uI (uI s 46 0 t) 46 39 10) ∧ FO s (uI (uI s 46 0 t) 46 39 10) ∧ eqW V V' ∧ mI (uI (uI s 46 0 t) 46 39 10) 46 0 = t ∧ V' 46 39 = 10 ∧ eqT (askW V) V' := by
  have h1 := (h.sc 46 0 t rfl).tr (a := 46) (k := 39) rfl (by decide) 10
  refine ⟨_, h1, (FO.uI s (a := 46) (k := 0) t (by decide)).trans (FO.uI _ (a := 46) (k := 39) 10 (by decide)), eqW.vU rfl _, ?_, vU_at _ _ _ _, eqT_of kW_eq (eqW.vU rfl _) (vU_at _ _ _ _) (Or.inl kW_39)⟩
  rw [mI_ne _ _ (by decide), mI_at]
theorem m_goodQ (h : RM V s) (x : Int32) : QM V s (f_Mo_good x s) (gB (bGood V x) (aGood V x)) (tB (bGood V x)) := by
  have hn : QM V s (f_Mo_good_b21 x 1 s) 0 1 := by
    obtain ⟨V1, h1, f1, w1, t1, -, q1⟩ := h.ten 1
    unfold f_Mo_good_b21
    simp only [f_ck_of h.b, t1]
    rw [if_pos trivial]
    exact QM.mk rfl h1 f1 w1 t1
  unfold f_Mo_good f_Mo_good_b20 bGood aGood
  simp only [f_ck_of h.b, (pe_0 h).1, f_bd_of (m_isPains h x), ite10]
  by_cases c : bP V = true
  · rw [if_neg (fun h9 => h9 c)]
    by_cases c2 : xpa V x = true
    · rw [if_pos c2, c, c2]
      show QM V s _ (sGood (askW V) _) 0
      obtain ⟨q, hq, rfl, -⟩ := xpa_t h.w c2
      obtain ⟨V1, h1, f1, w1, t1, -, q1⟩ := h.ten 0
      unfold f_Mo_good_b21
      simp only [f_ck_of h.b, t1]
      rw [if_neg (by decide), nI_clamp (by omega), ← cg_sGood q1]
      exact QM.mk (rn_bd (m_goodOf h1 hq) rfl) h1 f1 w1 t1
    · rw [if_neg c2]
      have e : (bP V && xpa V x) = false := by simp [c2]
      rw [e]; exact hn
  · rw [if_pos c]
    have e : (bP V && xpa V x) = false := by simp [c]
    rw [e]; exact hn
theorem m_bestQ (h : RM V s) (x : Int32) : QM V s (f_Mo_best x s) (gB (bP V && wi x 0 1) (aBest V x)) (tB (bP V && wi x 0 1)) := by
  have hn : QM V s (f_Mo_best_b22 x 1 s) 0 1 := by
    obtain ⟨V1, h1, f1, w1, t1, -, q1⟩ := h.ten 1
    unfold f_Mo_best_b22
    simp only [f_ck_of h.b, t1]
    rw [if_pos trivial]
    exact QM.mk rfl h1 f1 w1 t1
  unfold f_Mo_best f_Mo_best_b21
  simp only [f_ck_of h.b, (pe_0 h).1, f_bd_of (m_wi x 0 1), ite10]
  by_cases c : bP V = true
  · rw [if_neg (fun h9 => h9 c)]
    by_cases c2 : wi x 0 1 = true
    · rw [if_pos c2, c, c2]
      show QM V s _ (aBest V x) 0
      obtain ⟨V1, h1, f1, w1, t1, -, q1⟩ := h.ten 0
      unfold f_Mo_best_b22 aBest
      have eg : f_Mo_goodOf (nI (sBest (askW V))) (uI (uI s 46 0 0) 46 39 10) = some (sGood (askW V) (sBest (askW V)), uI (uI s 46 0 0) 46 39 10) := by
        rw [← cg_sBest q1, ← cg_sGood q1]; exact m_goodOf h1 (sBest_lt h1.w)
      simp only [f_ck_of h.b, t1, f_bd_of (m_bestPains h1), f_ck_of h1.b, cg_sBest q1, f_bd_of eg]
      rw [if_neg (by decide)]
      by_cases c3 : x = 0
      · rw [if_pos c3, if_pos c3]; exact QM.mk rfl h1 f1 w1 t1
      · rw [if_neg c3, if_neg c3]; exact QM.mk rfl h1 f1 w1 t1
    · rw [if_neg c2]
      have e : (bP V && wi x 0 1) = false := by simp [c2]
      rw [e]; exact hn
  · rw [if_pos c]
    have e : (bP V && wi x 0 1) = false := by simp [c]
    rw [e]; exact hn
theorem m_lostQ (h : RM V s) (x : Int32) : QM V s (f_Mo_lost x s) (aLost V x) 0 := by
  obtain ⟨V1, h1, f1, w1, t1, -, q1⟩ := h.ten 0
  have hb : bP V1 = bP V := by unfold bP; rw [eqW_pN w1]
  have eg : f_Mo_goodOf (nI (sBest (askW V))) (uI (uI s 46 0 0) 46 39 10) = some (sGood (askW V) (sBest (askW V)), uI (uI s 46 0 0) 46 39 10) := by
    rw [← cg_sBest q1, ← cg_sGood q1]; exact m_goodOf h1 (sBest_lt h1.w)
  unfold f_Mo_lost aLost bGood nB
  simp only [f_ck_of h.b, f_ck_of h1.b, (pe_0 h1).1, f_bd_of (m_isPains h1 x), ite10, hb, eqW_xpa w1 x, f_bd_of (m_bestPains h1), cg_sBest q1, f_bd_of eg]
  by_cases c : bP V = true
  · rw [if_neg (fun h9 => h9 c)]
    by_cases c2 : xpa V x = true
    · obtain ⟨q, hq, rfl, -⟩ := xpa_t h.w c2
      rw [if_pos c2, c, c2, if_pos (by rfl), nI_clamp (by omega), f_bd_of (m_goodOf h1 hq), cg_sGood q1]
      exact QM.mk rfl h1 f1 w1 t1
    · rw [if_neg c2, if_neg (by simp [c2])]
      exact QM.mk rfl h1 f1 w1 t1
  · rw [if_pos c, if_neg (by simp [c])]
    exact QM.mk rfl h1 f1 w1 t1
end
