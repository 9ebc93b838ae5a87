/-! gap, joint, one hand: the questions to the model -/
section
variable {V : Vw} {s : Sg}
theorem pkL_lt (g : Nat → Option Int32) : ∀ (k x : Nat) (b : Pk), (∀ t, b = some t → t.1 < x ∧ g t.1 = some t.2) → ∀ t, pkL g k x b = some t → t.1 < x + k ∧ g t.1 = some t.2 := by
  intro k
  induction k with
  | zero => intro x b hb t ht; exact hb t ht
  | succ k ih =>
    intro x b hb t ht
    have h1 : ∀ t, pkS (g x) x b = some t → t.1 < x + 1 ∧ g t.1 = some t.2 := by
      intro t ht
      unfold pkS at ht
      cases hg : g x with
      | none => rw [hg] at ht; have := hb t ht; exact ⟨by omega, this.2⟩
      | some v =>
        rw [hg] at ht
        cases b with
        | none => cases ht; exact ⟨Nat.lt_succ_self x, hg⟩
        | some u =>
          simp only at ht
          split at ht
          · cases ht; exact ⟨Nat.lt_succ_self x, hg⟩
          · cases ht; have := hb t rfl; exact ⟨by omega, this.2⟩
    have := ih (x + 1) _ h1 t ht
    exact ⟨by omega, this.2⟩
theorem m_gapQ (h : RM V s) : QM V s (f_Mo_gap s) (aGap V) 0 := by
  obtain ⟨s1, V1, e1, h1, f1, w1, t1, z1⟩ := m_first_i h 0
  have ho := sOws_le h.w
  unfold f_Mo_gap aGap
  simp only [f_ck_of h.b, f_bd_of e1]
  have ea : aFirst V 0 = pB (pkL (plO V) (sOws V) 0 none) := by
    unfold aFirst nB
    by_cases c : bP V = true
    · rw [c, if_pos (by rfl), if_neg (by decide), if_pos rfl]
    · rw [if_neg (by simp [c]), sOws_0 V c]; rfl
  rw [ea]
  have hp := pkL_lt (plO V) (sOws V) 0 none (fun t ht => by cases ht)
  cases hk : pkL (plO V) (sOws V) 0 none with
  | none =>
    rw [if_neg (show ¬ (0 : Int32) ≤ pB none by decide)]
    exact QM.mk rfl h1 f1 w1 t1
  | some t =>
    obtain ⟨hlt, hg⟩ := hp t hk
    rw [if_pos (show (0 : Int32) ≤ pB (some t) from nI_pos' (by omega)), f_ck_of h1.b]
    obtain ⟨s2, V2, e2, h2, f2, w2, z2, r2⟩ := m_reachByQ h1 z1 (x := t.1) (by omega)
    rw [plW_cg w1] at r2
    have e2' : f_Mo_reachBy (pB (some t)) s1 = some ((), s2) := e2
    rw [f_bd_of e2', f_ck_of h2.b]
    obtain ⟨s3, V3, e3, h3, f3, w3, z3, q3, M3, r3⟩ := m_reachAsQ h2
    rw [askW_cg (w1.trans w2)] at r3
    rw [f_bd_of e3, f_ck_of h3.b, (r2.2 t.2 hg).2]
    have ff := (f1.trans f2.1).trans f3.1
    have ww := (w1.trans w2).trans w3
    have tt : mI s3 46 0 = 0 := (f3.2.trans f2.2).trans t1
    cases hq : gO (askW V) with
    | none =>
      rw [if_pos (r3.1 hq).1]
      exact QM.mk rfl h3 ff ww tt
    | some v =>
      rw [if_neg (by rw [(r3.2 v hq).1]; decide), (r3.2 v hq).2]
      exact QM.mk rfl h3 ff ww tt
/-! joint -/
def sJn (V : Vw) : Nat → Nat → Nat
  | 0, x => x
  | k + 1, x => sJn V k (x * (pN V + 2) + pN V)
def cmJ (what : Bool) (a v : Int32) : Bool := if what = true then !decide (a ≤ v) else !decide (v ≤ a)
def jnL (g : Nat → Option Int32) (what : Bool) (a : Int32) : Nat → Nat → Nat → Nat
  | 0, _, n => n
  | k + 1, x, n => jnL g what a k (x + 1) (match g x with
    | none => n
    | some v => if cmJ what a v = true then n + 1 else n)
def aJoint (V : Vw) (x : Int32) : Int32 := nB (bP V && wi x 0 1) (match plO V (sJn V (tN V) 0) with
  | none => -1
  | some a => nI (jnL (plO V) (decide (x = 0)) a (sOws V) 0 0))
theorem sJn_le {V : Vw} (hp : pN V ≤ 4) : ∀ k x, sJn V k x + 1 ≤ (x + 1) * 6 ^ k := by
  intro k
  induction k with
  | zero => intro x; show x + 1 ≤ (x + 1) * 1; omega
  | succ k ih =>
    intro x
    refine Nat.le_trans (ih (x * (pN V + 2) + pN V)) ?_
    rw [Nat.pow_succ, Nat.mul_comm (6 ^ k) 6, ← Nat.mul_assoc]
    refine Nat.mul_le_mul_right _ ?_
    have h1 : x * (pN V + 2) ≤ x * 6 := Nat.mul_le_mul_left _ (by omega)
    omega
theorem sJn_lt {V : Vw} (hW : WV V) : sJn V (tN V) 0 < 216 := by
  have h1 := sJn_le hW.1.2 (tN V) 0
  have h3 : tN V = 0 ∨ tN V = 1 ∨ tN V = 2 ∨ tN V = 3 := by have := hW.2.1.2; omega
  rcases h3 with e | e | e | e <;> rw [e] at h1 ⊢ <;> omega
theorem m_joint_h33 (h : RM V s) (x1 : Int32) : ∀ (k t n x : Nat), t + k = tN V → k < n → f_Mo_joint_h33 n x1 (nI x) (nI t) s = f_Mo_joint_b61 x1 (nI (sJn V k x)) s := by
  have hp4 := h.p4
  have ht3 := h.t3
  intro k
  induction k with
  | zero =>
    intro t n x ht hn
    obtain ⟨n, rfl⟩ : ∃ m, n = m + 1 := ⟨n - 1, by omega⟩
    show f_Mo_joint_b33 _ _ _ _ _ = _
    unfold f_Mo_joint_b33
    rw [f_ck_of h.b, h.th, if_pos (nI_le (by omega) (by omega))]
    rfl
  | succ k ih =>
    intro t n x ht hn
    obtain ⟨n, rfl⟩ : ∃ m, n = m + 1 := ⟨n - 1, by omega⟩
    show f_Mo_joint_b33 _ _ _ _ _ = _
    unfold f_Mo_joint_b33
    rw [f_ck_of h.b, h.th, if_neg (nI_ge (by omega) (by omega)), m_p2 h, h.pe, nI_mul, nI_add, nI_1]
    exact ih (t + 1) n _ (by omega) (by omega)
theorem m_joint_h86 (x1 a : Int32) : ∀ (k x n m : Nat) (V : Vw) (s : Sg), RM V s → V 46 39 = 10 → x + k = sOws V → k < n →
    ∃ s' V', f_Mo_joint_h86 n x1 a (nI m) (nI x) s = some (nI (jnL (plO V) (decide (x1 = 0)) a k x m), s') ∧ RM V' s' ∧ FM s s' ∧ eqW V V' := by
  intro k
  induction k with
  | zero =>
    intro x n m V s h h39 hx hn
    obtain ⟨n, rfl⟩ : ∃ m, n = m + 1 := ⟨n - 1, by omega⟩
    have ho := sOws_le h.w
    refine ⟨s, V, ?_, h, FM.rf s, eqW.rf V⟩
    show f_Mo_joint_b86 _ _ _ _ _ _ = _
    unfold f_Mo_joint_b86
    rw [f_ck_of h.b, f_bd_of (m_owningsOf h), if_pos (nI_le (by omega) (by omega))]
    rfl
  | succ k ih =>
    intro x n m V s h h39 hx hn
    obtain ⟨n, rfl⟩ : ∃ m, n = m + 1 := ⟨n - 1, by omega⟩
    have ho := sOws_le h.w
    obtain ⟨s1, V1, e1, h1, f1, w1, z1, r1⟩ := m_reachByQ h h39 (x := x) (by omega)
    obtain ⟨s2, V2, e2, h2, f2, w2⟩ := ih (x + 1) n (match plO V x with
      | none => m
      | some v => if cmJ (decide (x1 = 0)) a v = true then m + 1 else m) V1 s1 h1 z1 (by rw [sOws_cg w1]; omega) (by omega)
    rw [plO_cg w1] at e2
    refine ⟨s2, V2, ?_, h2, f1.trans f2, w1.trans w2⟩
    refine Eq.trans ?_ e2
    show f_Mo_joint_b86 _ _ _ _ _ _ = _
    unfold f_Mo_joint_b86
    rw [f_ck_of h.b, f_bd_of (m_owningsOf h), if_neg (nI_ge (by omega) (by omega)), f_ck_of h.b, f_bd_of e1, f_ck_of h1.b]
    unfold f_Mo_joint_b137 f_Mo_joint_b133 f_Mo_joint_b138 cmJ
    have hg : plO V x = gO (plW V x) := rfl
    simp only [nI_1, Int32.add_zero]
    cases hv : gO (plW V x) with
    | none =>
      rw [hg, hv, if_pos (r1.1 hv).1]
    | some v =>
      rw [hg, hv, if_neg (by rw [(r1.2 v hv).1]; decide), (r1.2 v hv).2]
      by_cases c : x1 = 0
      · rw [if_pos c]
        by_cases c2 : a ≤ v
        · rw [if_pos c2]; simp [c, c2]
        · rw [if_neg c2]; simp [c, c2]
      · rw [if_neg c]
        by_cases c2 : v ≤ a
        · rw [if_pos c2]; simp [c, c2]
        · rw [if_neg c2]; simp [c, c2]
theorem m_jointQ (h : RM V s) (x : Int32) : QM V s (f_Mo_joint x s) (aJoint V x) 0 := by
  obtain ⟨V1, h1, f1, w1, t1, z1, -⟩ := h.ten 0
  have hb : bP V1 = bP V := by unfold bP; rw [eqW_pN w1]
  have ho := sOws_le h.w
  have hj := sJn_lt h1.w
  have ht3 := h1.t3
  unfold f_Mo_joint aJoint nB
  simp only [f_ck_of h.b, (pe_0 h1).2, hb, f_bd_of (m_wi x 0 1), ite10]
  by_cases c : bP V = true
  · rw [if_neg (fun h9 => h9 c)]
    by_cases c2 : wi x 0 1 = true
    · rw [if_pos c2, c, c2, if_pos (by rfl)]
      have e33 := m_joint_h33 h1 x (tN V1) 0 zl_fl 0 (by omega) (zl_fl_lt (by omega))
      have ej : sJn V1 (tN V1) 0 = sJn V (tN V) 0 := by
        rw [eqW_tN w1]
        have : ∀ k x, sJn V1 k x = sJn V k x := by
          intro k
          induction k with
          | zero => intro x; rfl
          | succ k ih => intro x; show sJn V1 k (x * (pN V1 + 2) + pN V1) = sJn V k (x * (pN V + 2) + pN V); rw [eqW_pN w1, ih]
        exact this _ _
      obtain ⟨s2, V2, e2, h2, f2, w2, z2, r2⟩ := m_reachByQ h1 z1 (x := sJn V1 (tN V1) 0) (by omega)
      rw [plW_cg w1] at r2
      have e33' : f_Mo_joint_h33 zl_fl x 0 0 _ = _ := e33
      rw [e33']
      unfold f_Mo_joint_b61
      rw [f_ck_of h1.b, f_bd_of e2, f_ck_of h2.b]
      rw [ej] at r2
      have hg : plO V (sJn V (tN V) 0) = gO (plW V (sJn V (tN V) 0)) := rfl
      rw [hg]
      cases hv : gO (plW V (sJn V (tN V) 0)) with
      | none =>
        rw [if_pos (r2.1 hv).1]
        exact QM.mk rfl h2 (f1.trans f2.1) (w1.trans w2) (f2.2.trans t1)
      | some v =>
        rw [if_neg (by rw [(r2.2 v hv).1]; decide), (r2.2 v hv).2]
        obtain ⟨s3, V3, e3, h3, f3, w3⟩ := m_joint_h86 x v (sOws V) 0 zl_fl 0 V2 s2 h2 z2 (by rw [sOws_cg (w1.trans w2)]; omega) (zl_fl_lt (by omega))
        rw [plO_cg (w1.trans w2)] at e3
        exact QM.mk e3 h3 ((f1.trans f2.1).trans f3.1) ((w1.trans w2).trans w3) ((f3.2.trans f2.2).trans t1)
    · rw [if_neg c2, if_neg (by simp [c2])]
      exact QM.mk rfl h1 f1 w1 t1
  · rw [if_pos c, if_neg (by simp [c])]
    exact QM.mk rfl h1 f1 w1 t1
end
