/-! all rests: the question to the model -/
section
abbrev Rs : Type := Option (Nat × Nat × Nat)
def rsS (W : Vw) (q : Nat) (o : Rs) : Rs := if (vpa W q && sRestS W q) = true then (match o with
  | none => some (1, q, q)
  | some t => some (t.1 + 1, (if sGood W t.2.1 ≤ sGood W q then t.2.1 else q), (if sGood W q ≤ sGood W t.2.2 then t.2.2 else q))) else o
def rsL (W : Vw) : Nat → Nat → Rs → Rs
  | 0, _, o => o
  | k + 1, q, o => rsL W k (q + 1) (rsS W q o)
def rsN (o : Rs) : Int32 := match o with
  | none => 0
  | some t => nI t.1
def rsA (o : Rs) : Int32 := match o with
  | none => -1
  | some t => nI t.2.1
def rsB (o : Rs) : Int32 := match o with
  | none => -1
  | some t => nI t.2.2
def aRests (V : Vw) (x : Int32) : Int32 := nB (bP V && wi x 0 2) (if x = 0 then rsN (rsL (askW V) (4 ^ pN V) 0 none) else if x = 1 then rsA (rsL (askW V) (4 ^ pN V) 0 none) else rsB (rsL (askW V) (4 ^ pN V) 0 none))
/-- what is found is small -/
def rsOk (q : Nat) (o : Rs) : Prop := ∀ t, o = some t → 1 ≤ t.1 ∧ t.1 ≤ q ∧ t.2.1 < q ∧ t.2.2 < q
theorem rsOk_s (W : Vw) {q : Nat} {o : Rs} (h : rsOk q o) : rsOk (q + 1) (rsS W q o) := by
  intro t ht
  unfold rsS at ht
  split at ht
  · cases o with
    | none => cases ht; exact ⟨Nat.le_refl 1, Nat.le_add_left 1 q, Nat.lt_succ_self q, Nat.lt_succ_self q⟩
    | some u =>
      obtain ⟨h1, h2, h3, h4⟩ := h u rfl
      cases ht
      refine ⟨by omega, by omega, ?_, ?_⟩
      · show (if _ then _ else _) < q + 1
        split <;> omega
      · show (if _ then _ else _) < q + 1
        split <;> omega
  · obtain ⟨h1, h2, h3, h4⟩ := h t ht
    exact ⟨h1, by omega, by omega, by omega⟩
theorem cg_rsL {W X : Vw} (h : eqQ W X) : ∀ (k q : Nat) (o : Rs), rsL X k q o = rsL W k q o := by
  intro k
  induction k with
  | zero => intro q o; rfl
  | succ k ih =>
    intro q o
    show rsL X k (q + 1) (rsS X q o) = rsL W k (q + 1) (rsS W q o)
    have e : rsS X q o = rsS W q o := by
      unfold rsS
      rw [cg_vpa h.1, cg_sRestS h]
      cases o with
      | none => rfl
      | some t => simp only [cg_sGood h.1]
    rw [e, ih]
variable {V : Vw} {s : Sg}
theorem m_rests_h (h : RM V s) (hM : MX V) (x1 : Int32) : ∀ (k q n : Nat) (o : Rs), rsOk q o → q + k = 4 ^ pN V → k < n → f_Mo_rests_h37 n x1 (rsN o) (rsA o) (rsB o) (nI q) s = some (if x1 = 0 then rsN (rsL V k q o) else if x1 = 1 then rsA (rsL V k q o) else rsB (rsL V k q o), s) := by
  have hp4 := h.p4
  have h256 := p4_le hp4
  intro k
  induction k with
  | zero =>
    intro q n o ho hq hn
    obtain ⟨n, rfl⟩ : ∃ m, n = m + 1 := ⟨n - 1, by omega⟩
    show f_Mo_rests_b37 _ _ _ _ _ _ _ = _
    unfold f_Mo_rests_b37
    rw [f_ck_of h.b, h.pe, shl_2p _ hp4, if_pos (nI_le (by omega) (by omega))]
    unfold f_Mo_rests_b133
    show _ = some (if x1 = 0 then rsN o else if x1 = 1 then rsA o else rsB o, s)
    by_cases c0 : x1 = 0
    · rw [if_pos c0, if_pos c0]
    · rw [if_neg c0, if_neg c0]
      by_cases c1 : x1 = 1
      · rw [if_pos c1, if_pos c1]
      · rw [if_neg c1, if_neg c1]
  | succ k ih =>
    intro q n o ho hq hn
    obtain ⟨n, rfl⟩ : ∃ m, n = m + 1 := ⟨n - 1, by omega⟩
    have hi := ih (q + 1) n (rsS V q o) (rsOk_s V ho) (by omega) (by omega)
    refine Eq.trans ?_ hi
    show f_Mo_rests_b37 _ _ _ _ _ _ _ = _
    unfold f_Mo_rests_b37
    simp only [f_ck_of h.b, h.pe, shl_2p _ hp4, f_bd_of (m_isPainsN h (show q < 2 ^ 31 by omega)), f_bd_of (m_areAtRest h hM (show q < 256 by omega)), ite10]
    rw [if_neg (nI_ge (by omega) (by omega))]
    unfold rsS
    by_cases c1 : vpa V q = true
    · rw [if_pos c1]
      by_cases c2 : sRestS V q = true
      · have c3 : (vpa V q && sRestS V q) = true := by rw [c1, c2]; rfl
        rw [if_pos c2, if_pos c3]
        unfold f_Mo_rests_b89 f_Mo_rests_b95 f_Mo_rests_b115 f_Mo_rests_b122 f_Mo_rests_b127
        cases o with
        | none =>
          rw [if_pos (show rsN none = 0 from rfl), if_pos (show rsN none = 0 from rfl), nI_1]
          rfl
        | some t =>
          obtain ⟨o1, o2, o3, o4⟩ := ho t rfl
          have e1 : f_Mo_goodOf (nI q) s = some (sGood V q, s) := m_goodOf h (by omega)
          have e2 : f_Mo_goodOf (rsA (some t)) s = some (sGood V t.2.1, s) := m_goodOf h (by omega)
          have e3 : f_Mo_goodOf (rsB (some t)) s = some (sGood V t.2.2, s) := m_goodOf h (by omega)
          have n0 : ¬ rsN (some t) = 0 := nI_ne0 (show 0 < t.1 by omega) (by omega)
          simp only [f_ck_of h.b, f_bd_of e1, f_bd_of e2, f_bd_of e3, nI_1]
          rw [if_neg n0, if_neg n0, if_neg n0]
          have en : rsN (some t) + 1 = nI (t.1 + 1) := nI_1 _
          rw [en]
          by_cases d1 : sGood V t.2.1 ≤ sGood V q
          · rw [if_pos d1]
            by_cases d2 : sGood V q ≤ sGood V t.2.2
            · rw [if_pos d2, if_pos d1, if_pos d2]; rfl
            · rw [if_neg d2, if_pos d1, if_neg d2]; rfl
          · rw [if_neg d1]
            by_cases d2 : sGood V q ≤ sGood V t.2.2
            · rw [if_pos d2, if_neg d1, if_pos d2]; rfl
            · rw [if_neg d2, if_neg d1, if_neg d2]; rfl
      · have c3 : ¬ (vpa V q && sRestS V q) = true := by simp [c2]
        rw [if_neg c2, if_neg c3]
        unfold f_Mo_rests_b127
        rw [nI_1]
    · have c3 : ¬ (vpa V q && sRestS V q) = true := by simp [c1]
      rw [if_neg c1, if_neg c3]
      unfold f_Mo_rests_b127
      rw [nI_1]
theorem m_restsQ (h : RM V s) (x : Int32) : QM V s (f_Mo_rests x s) (aRests V x) 0 := by
  obtain ⟨h0, f0, t0⟩ := h.no
  have hp4 := h.p4
  have h256 := p4_le hp4
  unfold f_Mo_rests aRests nB
  simp only [f_ck_of h.b, (pe_0 h0).2, f_bd_of (m_wi x 0 2), ite10]
  by_cases c : bP V = true
  · rw [if_neg (fun h9 => h9 c)]
    by_cases c2 : wi x 0 2 = true
    · obtain ⟨s1, V1, e1, h1, f1, w1, -, q1, M1⟩ := m_asQ h0
      rw [if_pos c2, c, c2, if_pos (show (true && true) = true from rfl), f_ck_of h0.b, f_bd_of e1, ← cg_rsL q1]
      have e := m_rests_h h1 M1 x (4 ^ pN V) 0 zl_fl none (fun t ht => by cases ht) (by rw [eqW_pN w1]; omega) (zl_fl_lt (by omega))
      exact QM.mk e h1 (f0.trans f1.1) w1 (f1.2.trans t0)
    · rw [if_neg c2, if_neg (by simp [c2])]
      exact QM.mk rfl h0 f0 (eqW.rf V) t0
  · rw [if_pos c, if_neg (by simp [c])]
    exact QM.mk rfl h0 f0 (eqW.rf V) t0
end
