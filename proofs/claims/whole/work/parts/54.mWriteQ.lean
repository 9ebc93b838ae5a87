/-! what is written: the questions to the model -/
section
def gP (W : Vw) (kp q : Nat) : Option Int32 := match sFar W kp q with
  | none => none
  | some t => some (sGood W t.1)
def wrO (V : Vw) (p st : Nat) : Option Int32 := gP (askW V) p (st * 4 ^ p)
def bWritten (V : Vw) (x1 x2 : Int32) : Bool := stp V x1 x2 && (wrO V x1.toNatClampNeg x2.toNatClampNeg).isSome
def aWritten (V : Vw) (x1 x2 : Int32) : Int32 := oV (wrO V x1.toNatClampNeg x2.toNatClampNeg)
def wrP (V : Vw) (x1 : Int32) : Pk := pkL (wrO V x1.toNatClampNeg) (sN V x1.toNatClampNeg + 1) 0 none
def bWriting (V : Vw) (x1 x2 : Int32) : Bool := (xb x1 (pN V) && wi x2 0 1) && ((gO (askW V)).isSome && (wrP V x1).isSome)
def aWriting (V : Vw) (x1 x2 : Int32) : Int32 := if x2 = 0 then pB (wrP V x1) else pM (wrP V x1) - oV (gO (askW V))
variable {V : Vw} {s : Sg}
theorem m_writtenQ (h : RM V s) (x1 x2 : Int32) : QM V s (f_Mo_written x1 x2 s) (gB (bWritten V x1 x2) (aWritten V x1 x2)) (tB (bWritten V x1 x2)) := by
  have hp4 := h.p4
  have hn2 : ∀ {s1 : Sg} {V1 : Vw}, RM V1 s1 → FO s s1 → eqW V V1 → QM V s (f_Mo_written_b53 (-1) s1) 0 1 := by
    intro s1 V1 h1 f1 w1
    have ft := FO_th f1 1
    unfold f_Mo_written_b53 f_Mo_written_b64
    rw [if_neg (show ¬ (0 : Int32) ≤ -1 by decide)]
    simp only [f_ck_of h1.b, ft.2]
    rw [if_pos trivial]
    exact QM.mk rfl (h1.sc 46 0 1 rfl) ft.1 w1 ft.2
  have hn : stp V x1 x2 = false → QM V s (f_Mo_written_b28 x1 x2 1 s) (gB (bWritten V x1 x2) (aWritten V x1 x2)) (tB (bWritten V x1 x2)) := by
    intro e
    obtain ⟨s1, V1, e1, h1, f1, t1, w1, q1, M1⟩ := m_asT h 1
    unfold bWritten
    rw [e]
    unfold f_Mo_written_b28
    simp only [f_ck_of h.b, f_bd_of e1, f_ck_of h1.b, t1]
    rw [if_pos trivial]
    exact hn2 h1 f1 w1
  unfold f_Mo_written f_Mo_written_b27
  simp only [f_ck_of h.b, f_bd_of (m_isPerson h x1), ite10]
  by_cases c : xb x1 (pN V) = true
  · obtain ⟨p, hp, rfl⟩ := xb_t c (by omega)
    have h3 := sN_le h hp
    rw [if_pos c, f_ck_of (vp_in_nI (by omega) (by decide) : vp_in (nI p) 8), nI_clamp (by omega), h.st hp]
    simp only [f_bd_of (m_wi x2 0 (nI (sN V p))), ite10]
    by_cases c2 : wi x2 0 (nI (sN V p)) = true
    · have hs : stp V (nI p) x2 = true := by unfold stp; rw [nI_clamp (by omega), c, c2]; rfl
      obtain ⟨st, hst, rfl⟩ := wi_t c2 (by omega)
      obtain ⟨s1, V1, e1, h1, f1, t1, w1, q1, M1⟩ := m_asT h 0
      rw [if_pos c2]
      unfold f_Mo_written_b28
      simp only [f_ck_of h.b, f_bd_of e1, f_ck_of h1.b, t1]
      rw [if_neg (by decide)]
      obtain ⟨s2, e2, h2, f2, t2⟩ := m_turnsOutK h1 M1 (kp := p) (st := st) (by rw [eqW_pN w1]; exact hp) (by omega)
      rw [cg_sFar q1] at e2 t2
      rw [f_bd_of e2]
      unfold bWritten aWritten wrO gP
      rw [hs, nI_clamp (by omega), nI_clamp (by omega)]
      cases hf : sFar (askW V) p (st * 4 ^ p) with
      | none => exact hn2 h2 (f1.trans f2.1) w1
      | some t =>
        have tl := (t2 t hf).2
        have ft := FO_th (f1.trans f2.1) 0
        have h4 := h2.sc 46 0 0 rfl
        unfold f_Mo_written_b53 f_Mo_written_b64
        rw [if_pos (show (0 : Int32) ≤ oI (some t) from nI_pos' (by omega))]
        simp only [f_ck_of h2.b, ft.2]
        rw [if_neg (by decide)]
        show QM V s _ (sGood (askW V) t.1) 0
        rw [← cg_sGood q1.1]
        exact QM.mk (rn_bd (m_goodOf h4 tl) rfl) h4 ft.1 w1 ft.2
    · rw [if_neg c2]; exact hn (by unfold stp; rw [nI_clamp (by omega)]; simp [c2])
  · rw [if_neg c]; exact hn (by unfold stp; simp [c])
theorem m_writing_h {W : Vw} {p : Nat} (as is : Int32) (x2 : Int32) : ∀ (k st n : Nat) (b : Pk) (V : Vw) (s : Sg), RM V s → eqQ W V → MX V → p < pN V → (∀ t, b = some t → t.1 < st + 1) → st + k = sN V p + 1 → k < n →
    ∃ s', f_Mo_writing_h60 n (nI p) x2 as is (pB b) (pM b) (nI st) s = f_Mo_writing_b122 x2 as is (pB (pkL (fun st => gP W p (st * 4 ^ p)) k st b)) (pM (pkL (fun st => gP W p (st * 4 ^ p)) k st b)) s' ∧ RM V s' ∧ FM s s' := by
  intro k
  induction k with
  | zero =>
    intro st n b V s h q M hp hb hst hn
    obtain ⟨n, rfl⟩ : ∃ m, n = m + 1 := ⟨n - 1, by omega⟩
    have hp4 := h.p4
    have h3 := sN_le h hp
    refine ⟨s, ?_, h, FM.rf s⟩
    show f_Mo_writing_b60 _ _ _ _ _ _ _ _ _ = _
    unfold f_Mo_writing_b60
    rw [f_ck_of h.b, f_ck_of (vp_in_nI (by omega) (by decide)), nI_clamp (by omega), h.st hp, if_pos (nI_lt (by omega) (by omega))]
    rfl
  | succ k ih =>
    intro st n b V s h q M hp hb hst hn
    obtain ⟨n, rfl⟩ : ∃ m, n = m + 1 := ⟨n - 1, by omega⟩
    have hp4 := h.p4
    have h3 := sN_le h hp
    obtain ⟨s1, e1, h1, f1, t1⟩ := m_turnsOutK h M (kp := p) (st := st) hp (by omega)
    rw [cg_sFar q] at e1 t1
    have hb2 := pkS_lt (g := gP W p (st * 4 ^ p)) hb
    obtain ⟨s2, e2, h2, f2⟩ := ih (st + 1) n (pkS (gP W p (st * 4 ^ p)) st b) V s1 h1 q M hp hb2 (by omega) (by omega)
    refine ⟨s2, Eq.trans ?_ e2, h2, f1.trans f2⟩
    show f_Mo_writing_b60 _ _ _ _ _ _ _ _ _ = _
    unfold f_Mo_writing_b60
    rw [f_ck_of h.b, f_ck_of (vp_in_nI (by omega) (by decide)), nI_clamp (by omega), h.st hp, if_neg (nI_nlt (by omega) (by omega)), f_bd_of e1]
    unfold f_Mo_writing_b104 f_Mo_writing_b116
    have hpb := pB_0 (b := b) (fun t ht => by have := hb t ht; omega)
    simp only [f_ck_of h1.b, nI_1]
    unfold gP
    cases hf : sFar W p (st * 4 ^ p) with
    | none =>
      rw [if_pos (show oI none < 0 by decide)]
      rfl
    | some t =>
      have tl := (t1 t hf).2
      have eg : f_Mo_goodOf (oI (some t)) s1 = some (sGood W t.1, s1) := by rw [← cg_sGood q.1]; exact m_goodOf h1 tl
      rw [if_neg (show ¬ oI (some t) < 0 from nI_pos (by omega))]
      simp only [f_bd_of eg]
      cases b with
      | none => rw [if_pos (hpb.1.mpr rfl)]; rfl
      | some u =>
        rw [if_neg (fun h9 => by have := hpb.1.mp h9; cases this)]
        show (if u.2 < sGood W t.1 then _ else _) = f_Mo_writing_h60 n (nI p) x2 as is (pB (if u.2 < sGood W t.1 then some (st, sGood W t.1) else some u)) (pM (if u.2 < sGood W t.1 then some (st, sGood W t.1) else some u)) (nI (st + 1)) s1
        by_cases c : u.2 < sGood W t.1
        · rw [if_pos c, if_pos c]; exact f_ck_of h1.b
        · rw [if_neg c, if_neg c]
theorem m_writingQ (h : RM V s) (x1 x2 : Int32) : QM V s (f_Mo_writing x1 x2 s) (gB (bWriting V x1 x2) (aWriting V x1 x2)) (tB (bWriting V x1 x2)) := by
  have hp4 := h.p4
  have hn : (xb x1 (pN V) && wi x2 0 1) = false → QM V s (f_Mo_writing_b23 x1 x2 1 s) (gB (bWriting V x1 x2) (aWriting V x1 x2)) (tB (bWriting V x1 x2)) := by
    intro e
    unfold bWriting
    rw [e]
    have ft := FO_th (FO.rf s) 1
    unfold f_Mo_writing_b23
    simp only [f_ck_of h.b, ft.2]
    rw [if_pos trivial]
    exact QM.mk rfl (h.sc 46 0 1 rfl) ft.1 (eqW.rf V) ft.2
  unfold f_Mo_writing f_Mo_writing_b22
  simp only [f_ck_of h.b, f_bd_of (m_isPerson h x1), f_bd_of (m_wi x2 0 1), ite10]
  by_cases c : xb x1 (pN V) = true
  · rw [if_pos c]
    by_cases c2 : wi x2 0 1 = true
    · rw [if_pos c2]
      obtain ⟨p, hp, rfl⟩ := xb_t c (by omega)
      have ft := FO_th (FO.rf s) 0
      have h1 := h.sc 46 0 0 rfl
      obtain ⟨s2, V2, e2, h2, f2, w2, z2, q2, M2, r2⟩ := m_reachAsQ h1
      have hpk := fun t ht => pkL_lt (wrO V p) (sN V p + 1) 0 none (fun t ht => by cases ht) t ht
      obtain ⟨s3, e3, h3, f3⟩ := m_writing_h (mI s2 46 56) (mI s2 46 55) x2 (sN V p + 1) 0 zl_fl none V2 s2 h2 q2 M2 (by rw [eqW_pN w2]; exact hp) (fun t ht => by cases ht) (by rw [eqW_sN w2]; omega) (zl_fl_lt (by have := sN_le h hp; omega))
      unfold f_Mo_writing_b23
      simp only [f_ck_of h.b, ft.2, f_bd_of e2, f_ck_of h2.b]
      rw [if_neg (by decide)]
      have e3' : f_Mo_writing_h60 zl_fl (nI p) x2 (mI s2 46 56) (mI s2 46 55) (-1) 0 0 s2 = _ := e3
      rw [e3']
      unfold bWriting aWriting wrP
      rw [c, c2, nI_clamp (by omega)]
      have e5 : pkL (fun st => gP (askW V) p (st * 4 ^ p)) (sN V p + 1) 0 none = pkL (wrO V p) (sN V p + 1) 0 none := rfl
      rw [e5]
      have fx := fun t => FO_th (ft.1.trans (f2.1.trans f3.1)) t
      have hx := fun t => h3.sc 46 0 t rfl
      have hz : ∀ y z w : Int32, QM V s (f_Mo_writing_b138 x2 y z w 1 s3) 0 1 := by
        intro y z w
        unfold f_Mo_writing_b138
        simp only [f_ck_of h3.b, (fx 1).2]
        rw [if_pos trivial]
        exact QM.mk rfl (hx 1) (fx 1).1 w2 (fx 1).2
      unfold f_Mo_writing_b122 f_Mo_writing_b137
      cases hg : gO (askW V) with
      | none =>
        rw [if_pos (r2.1 hg).1]
        exact hz _ _ _
      | some v =>
        rw [if_neg (by rw [(r2.2 v hg).1]; decide), (r2.2 v hg).2]
        cases hk : pkL (wrO V p) (sN V p + 1) 0 none with
        | none =>
          rw [if_pos (show pB none < 0 by decide)]
          exact hz _ _ _
        | some t =>
          have tl := hpk t hk
          have h4 := sN_le h hp
          rw [if_neg (show ¬ pB (some t) < 0 from nI_pos (by omega))]
          unfold f_Mo_writing_b138
          simp only [f_ck_of h3.b, (fx 0).2]
          rw [if_neg (by decide)]
          show QM V s _ (if x2 = 0 then pB (some t) else pM (some t) - v) 0
          by_cases c3 : x2 = 0
          · rw [if_pos c3, if_pos c3]; exact QM.mk rfl (hx 0) (fx 0).1 w2 (fx 0).2
          · rw [if_neg c3, if_neg c3]; exact QM.mk rfl (hx 0) (fx 0).1 w2 (fx 0).2
    · rw [if_neg c2]; exact hn (by simp [c2])
  · rw [if_neg c]; exact hn (by simp [c])
end
