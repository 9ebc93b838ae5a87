/-! the best price: the question to the model -/
section
variable {V : Vw} {s : Sg}
theorem rgO_cg {V' : Vw} (h : eqW V V') (th bu : Nat) : rgO V' th bu = rgO V th bu := by
  funext pr
  unfold rgO
  rw [dlW_cg h]
theorem m_price_h {th bu m : Nat} (x4 : Int32) (hm : m ≤ 60) : ∀ (k pr n : Nat) (b : Pk) (V : Vw) (s : Sg), RM V s → th < tN V → bu < pN V → (∀ t, b = some t → t.1 < pr + 1) → pr + k = m + 1 → k < n →
    ∃ s' V', f_Mo_rightPrice_h64 n (nI th) (nI bu) (nI m) x4 (pB b) (pM b) (nI pr) s = f_Mo_rightPrice_b122 x4 (pB (pkL (rgO V th bu) k pr b)) (pM (pkL (rgO V th bu) k pr b)) s' ∧ RM V' s' ∧ FM s s' ∧ eqW V V' := by
  intro k
  induction k with
  | zero =>
    intro pr n b V s h hth hbu hb hpr hn
    obtain ⟨n, rfl⟩ : ∃ m, n = m + 1 := ⟨n - 1, by omega⟩
    refine ⟨s, V, ?_, h, FM.rf s, eqW.rf V⟩
    show f_Mo_rightPrice_b64 _ _ _ _ _ _ _ _ _ = _
    unfold f_Mo_rightPrice_b64
    rw [if_pos (nI_lt (by omega) (by omega))]
    rfl
  | succ k ih =>
    intro pr n b V s h hth hbu hb hpr hn
    obtain ⟨n, rfl⟩ : ∃ m, n = m + 1 := ⟨n - 1, by omega⟩
    obtain ⟨s1, V1, e1, h1, f1, w1, q1, M1, t1⟩ := m_rightPains h hth hbu (nI pr)
    have hb2 := pkS_lt (g := rgO V th bu pr) hb
    obtain ⟨s2, V2, e2, h2, f2, w2⟩ := ih (pr + 1) n (pkS (rgO V th bu pr) pr b) V1 s1 h1 (by rw [eqW_tN w1]; exact hth) (by rw [eqW_pN w1]; exact hbu) hb2 (by omega) (by omega)
    rw [rgO_cg w1] at e2
    refine ⟨s2, V2, Eq.trans ?_ e2, h2, f1.trans f2, w1.trans w2⟩
    show f_Mo_rightPrice_b64 _ _ _ _ _ _ _ _ _ = _
    unfold f_Mo_rightPrice_b64
    rw [if_neg (nI_nlt (by omega) (by omega)), f_ck_of h.b, f_bd_of e1]
    unfold f_Mo_rightPrice_b104 f_Mo_rightPrice_b116
    have hpb := pB_0 (b := b) (fun t ht => by have := hb t ht; omega)
    simp only [f_ck_of h1.b, nI_1]
    unfold rgO gO
    cases hf : sFar (dlW V 1 bu th (nI pr) (nI (2 ^ bu))) 99 0 with
    | none =>
      rw [if_pos (show oI none < 0 by decide)]
      rfl
    | some t =>
      have tl := t1 t hf
      have eg : f_Mo_goodOf (oI (some t)) s1 = some (sGood (dlW V 1 bu th (nI pr) (nI (2 ^ bu))) t.1, s1) := by rw [← cg_sGood q1.1]; exact m_goodOf h1 tl
      rw [if_neg (show ¬ oI (some t) < 0 from nI_pos (by omega))]
      simp only [f_bd_of eg]
      generalize sGood (dlW V 1 bu th (nI pr) (nI (2 ^ bu))) t.1 = v
      cases b with
      | none => rw [if_pos (hpb.1.mpr rfl)]; rfl
      | some u =>
        rw [if_neg (fun h9 => by have := hpb.1.mp h9; cases this)]
        show (if u.2 < v then _ else _) = f_Mo_rightPrice_h64 n (nI th) (nI bu) (nI m) x4 (pB (if u.2 < v then some (pr, v) else some u)) (pM (if u.2 < v then some (pr, v) else some u)) (nI (pr + 1)) s1
        by_cases c : u.2 < v
        · rw [if_pos c, if_pos c]; first | rfl | exact f_ck_of h1.b
        · rw [if_neg c, if_neg c]
theorem m_priceQ (h : RM V s) (x1 x2 x3 x4 : Int32) : QM V s (f_Mo_rightPrice x1 x2 x3 x4 s) (gB (bPrice V x1 x2 x3 x4) (aPrice V x1 x2 x3 x4)) (tB (bPrice V x1 x2 x3 x4)) := by
  have hp4 := h.p4
  have ht3 := h.t3
  have hn : bPriceC V x1 x2 x3 x4 = false → QM V s (f_Mo_rightPrice_b42 x1 x2 x3 x4 1 s) (gB (bPrice V x1 x2 x3 x4) (aPrice V x1 x2 x3 x4)) (tB (bPrice V x1 x2 x3 x4)) := by
    intro e
    unfold bPrice
    rw [e]
    have ft := FO_th (FO.rf s) 1
    unfold f_Mo_rightPrice_b42
    simp only [f_ck_of h.b, ft.2]
    rw [if_pos trivial]
    exact QM.mk rfl (h.sc 46 0 1 rfl) ft.1 (eqW.rf V) ft.2
  unfold f_Mo_rightPrice f_Mo_rightPrice_b41
  simp only [f_ck_of h.b, f_bd_of (m_isThing h x1), f_bd_of (m_isPerson h x2), f_bd_of (m_wi x3 0 60), f_bd_of (m_wi x4 0 1), ite10]
  by_cases c1 : xb x1 (tN V) = true
  · rw [if_pos c1]
    by_cases c2 : xb x2 (pN V) = true
    · rw [if_pos c2]
      by_cases c3 : wi x3 0 60 = true
      · rw [if_pos c3]
        by_cases c4 : wi x4 0 1 = true
        · have hc : bPriceC V x1 x2 x3 x4 = true := by unfold bPriceC; rw [c1, c2, c3, c4]; rfl
          rw [if_pos c4]
          obtain ⟨th, hth, rfl⟩ := xb_t c1 (by omega)
          obtain ⟨bu, hbu, rfl⟩ := xb_t c2 (by omega)
          obtain ⟨m, hm, rfl⟩ := wi_t (m := 60) c3 (by omega)
          have ft := FO_th (FO.rf s) 0
          have h1 := h.sc 46 0 0 rfl
          obtain ⟨s2, V2, e2, h2, f2, w2⟩ := m_price_h (th := th) (bu := bu) x4 hm (m + 1) 0 zl_fl none V _ h1 hth hbu (fun t ht => by cases ht) (by omega) (zl_fl_lt (by omega))
          have hpk := pkL_lt (rgO V th bu) (m + 1) 0 none (fun t ht => by cases ht)
          unfold f_Mo_rightPrice_b42
          simp only [f_ck_of h.b, ft.2]
          rw [if_neg (by decide)]
          have e2' : f_Mo_rightPrice_h64 zl_fl (nI th) (nI bu) (nI m) x4 (-1) 0 0 (uI s 46 0 0) = _ := e2
          rw [e2']
          unfold bPrice aPrice rpP
          rw [hc, nI_clamp (by omega), nI_clamp (by omega), nI_clamp (by omega), Bool.true_and]
          have fx := fun t => FO_th (ft.1.trans f2.1) t
          have hx := fun t => h2.sc 46 0 t rfl
          unfold f_Mo_rightPrice_b122 f_Mo_rightPrice_b133
          cases hk : pkL (rgO V th bu) (m + 1) 0 none with
          | none =>
            rw [if_neg (show ¬ (0 : Int32) ≤ pB none by decide)]
            simp only [f_ck_of h2.b, (fx 1).2]
            rw [if_pos trivial]
            exact QM.mk rfl (hx 1) (fx 1).1 w2 (fx 1).2
          | some t =>
            have tl := (hpk t hk).1
            rw [if_pos (show (0 : Int32) ≤ pB (some t) from nI_pos' (by omega))]
            simp only [f_ck_of h2.b, (fx 0).2]
            rw [if_neg (by decide)]
            show QM V s _ (if x4 = 0 then pB (some t) else pM (some t)) 0
            by_cases k0 : x4 = 0
            · rw [if_pos k0, if_pos k0]; exact QM.mk rfl (hx 0) (fx 0).1 w2 (fx 0).2
            · rw [if_neg k0, if_neg k0]; exact QM.mk rfl (hx 0) (fx 0).1 w2 (fx 0).2
        · rw [if_neg c4]; exact hn (by unfold bPriceC; simp [c4])
      · rw [if_neg c3]; exact hn (by unfold bPriceC; simp [c3])
    · rw [if_neg c2]; exact hn (by unfold bPriceC; simp [c2])
  · rw [if_neg c1]; exact hn (by unfold bPriceC; simp [c1])
/-! where a thing should change hands: the question to the model -/
def edO (V : Vw) (tm ln : Int32) (th : Nat) (p : Nat) : Option Int32 := gO (edW V tm ln th p)
def edP (V : Vw) (tm ln : Int32) (th : Nat) : Pk := pkL (edO V tm ln th) (pN V) 0 none
/-- the tenths that are tried: up or down -/
def edL (V : Vw) (ln : Int32) (th : Nat) (up : Bool) (us : Nat) : Nat → Nat → Int32
  | 0, _ => -1
  | k + 1, m => (match edP V (nI m) ln th with
    | none => edL V ln th up us k (if up = true then m + 1 else m - 1)
    | some t => if t.1 = us then edL V ln th up us k (if up = true then m + 1 else m - 1) else nI m)
def bEdgeC (V : Vw) (x1 x2 x3 : Int32) : Bool := xb x1 (kN V) && (xb x2 (tN V) && wi x3 0 1)
def aEdge (V : Vw) (x1 x2 x3 : Int32) : Int32 := nB (bEdgeC V x1 x2 x3) (match edP V 10 x1 x2.toNatClampNeg with
  | none => -1
  | some t => if x3 = 0 then edL V x1 x2.toNatClampNeg true t.1 30 11 else edL V x1 x2.toNatClampNeg false t.1 10 9)
theorem edP_cg {V' : Vw} (h : eqW V V') (tm ln : Int32) (th : Nat) : edP V' tm ln th = edP V tm ln th := by
  have : edO V' tm ln th = edO V tm ln th := by
    funext p
    unfold edO
    rw [edW_cg h]
  unfold edP
  rw [this, eqW_pN h]
theorem m_edReach (h : RM V s) (h50 : V 46 50 = 0) {th p : Nat} (hth : th < tN V) (hp : p < pN V) : ∃ s1 s2 s3 V', f_Mo_laysAll 0 s = some ((), s1) ∧ zl_B s1 ∧ f_Mo_lays 0 (nI th) (nI (2 ^ p)) 1 s1 = some ((), s2) ∧ zl_B s2 ∧ f_Mo_reach s2 = some ((), s3) ∧ RM V' s3 ∧ FM s s3 ∧ eqW V V' ∧ V' 46 50 = 0 ∧ V' 46 39 = V 46 39 ∧ V' 46 38 = V 46 38 ∧ rcd (gO (edW V (V 46 39) (V 46 38) th p)) s3 := by
  have ht3 := h.t3
  have hp4 := h.p4
  obtain ⟨s1, V1, e1, h1, f1, w1, o1, n1, l1⟩ := m_laysAll h (c := 0) (by decide)
  obtain ⟨s2, e2, h2, f2⟩ := m_lays h1 (c := 0) (t := th) (by decide) (by omega) (nI (2 ^ p)) 1
  have hw : eqW V (vLay V1 0 th (nI (2 ^ p)) 1) := w1.trans (vLay_eq V1 0 th _ _)
  have hn : ∀ k, vLay V1 0 th (nI (2 ^ p)) 1 46 k = V 46 k := fun k => (vLay_no _ _ _ _ _ _ _ (by decide)).trans (n1 46 k (by decide))
  have hl : laid (vLay V1 0 th (nI (2 ^ p)) 1) 0 (updF (fun t => V 69 t) th (nI (2 ^ p))) (updF (fun t => V 70 t) th 1) 3 := by
    intro t ht
    simp only [vLay_no V1 0 th _ _ 73 _ (by decide), vLay_no V1 0 th _ _ 71 _ (by decide), vLay_no V1 0 th _ _ 72 _ (by decide)]
    unfold updF
    by_cases e : t = th
    · subst e
      simp only [if_true]
      exact vLay_at V1 ht (nI (2 ^ p)) 1
    · simp only [if_neg e]
      have h9 := vLay_ot V1 (c := 0) (t := th) (by omega) ht e (nI (2 ^ p)) 1
      have h8 := l1 t ht
      rw [h9.1, h9.2.1, h9.2.2.1, h9.2.2.2]
      simp only [← n1 73 t (by decide), ← n1 71 t (by decide), ← n1 72 t (by decide)] at h8
      exact h8
  have lim : ∀ t, t < 3 → is_n (updF (fun t => V 69 t) th (nI (2 ^ p)) t) 15 ∧ is_n (updF (fun t => V 70 t) th 1 t) 4 := by
    intro t ht
    have := own_lim h.w t ht
    unfold updF
    split
    · exact ⟨own1_lim p (by omega), ⟨1, by decide, rfl⟩⟩
    · exact this
  have m0 := CX_laid h.w (laid_le hl ht3) hw (fun t ht => lim t (by omega))
  have c0 := eqC_of (W := edW V (V 46 39) (V 46 38) th p) kW_eq hw kW_la0 hl ht3
  obtain ⟨s3, e3, h3, f3, r3⟩ := m_reach h2 ⟨m0.1, m0.2, Or.inl ((hn 50).trans h50)⟩
  refine ⟨s1, s2, s3, _, e1, h1.b, e2, h2.b, e3, h3, (f1.trans f2).trans f3, hw, (hn 50).trans h50, hn 39, hn 38, rcd_of ⟨eqT_of kW_eq hw ((hn 39).trans kW_39.symm) (Or.inr ((hn 38).trans kW_38.symm)), c0.1, c0.2, ((hn 50).trans h50).trans kW_50.symm, Or.inl kW_50⟩ r3⟩
theorem m_ownerFor_h {th : Nat} (tm ln : Int32) : ∀ (k p n : Nat) (b : Pk) (V : Vw) (s : Sg), RM V s → V 46 50 = 0 → V 46 39 = tm → V 46 38 = ln → th < tN V → (∀ t, b = some t → t.1 < p + 1) → p + k = pN V → k < n →
    ∃ s' V', f_Mo_ownerFor_h7 n (nI th) (pB b) (pM b) (nI p) s = some (pB (pkL (edO V tm ln th) k p b), s') ∧ RM V' s' ∧ FM s s' ∧ eqW V V' ∧ V' 46 50 = 0 ∧ V' 46 39 = tm ∧ V' 46 38 = ln := by
  intro k
  induction k with
  | zero =>
    intro p n b V s h h50 h39 h38 hth hb hp hn
    obtain ⟨n, rfl⟩ : ∃ m, n = m + 1 := ⟨n - 1, by omega⟩
    have hp4 := h.p4
    refine ⟨s, V, ?_, h, FM.rf s, eqW.rf V, h50, h39, h38⟩
    show f_Mo_ownerFor_b7 _ _ _ _ _ _ = _
    unfold f_Mo_ownerFor_b7
    rw [f_ck_of h.b, h.pe, if_pos (nI_le (by omega) (by omega))]
    rfl
  | succ k ih =>
    intro p n b V s h h50 h39 h38 hth hb hp hn
    obtain ⟨n, rfl⟩ : ∃ m, n = m + 1 := ⟨n - 1, by omega⟩
    have hp4 := h.p4
    obtain ⟨s1, s2, s3, V3, e1, b1, e2, b2, e3, h3, f3, w3, z50, z39, z38, r3⟩ := m_edReach h h50 hth (p := p) (by omega)
    rw [h39] at z39 r3
    rw [h38] at z38 r3
    have hb2 := pkS_lt (g := edO V tm ln th p) hb
    obtain ⟨s4, V4, e4, h4, f4, w4, y50, y39, y38⟩ := ih (p + 1) n (pkS (edO V tm ln th p) p b) V3 s3 h3 z50 z39 z38 (by rw [eqW_tN w3]; exact hth) hb2 (by rw [eqW_pN w3]; omega) (by omega)
    have eo : edO V3 tm ln th = edO V tm ln th := by
      funext p
      unfold edO
      rw [edW_cg w3]
    rw [eo] at e4
    refine ⟨s4, V4, Eq.trans ?_ e4, h4, f3.trans f4, w3.trans w4, y50, y39, y38⟩
    show f_Mo_ownerFor_b7 _ _ _ _ _ _ = _
    unfold f_Mo_ownerFor_b7
    rw [f_ck_of h.b, h.pe, if_neg (nI_ge (by omega) (by omega)), f_bd_of e1, f_ck_of b1, shl_p p (by omega), f_bd_of e2, f_ck_of b2, f_bd_of e3, f_ck_of h3.b]
    unfold f_Mo_ownerFor_b58 f_Mo_ownerFor_b66
    have hpb := pB_0 (b := b) (fun t ht => by have := hb t ht; omega)
    have hg : edO V tm ln th p = gO (edW V tm ln th p) := rfl
    simp only [f_ck_of h3.b, nI_1]
    rw [hg]
    cases hv : gO (edW V tm ln th p) with
    | none => rw [if_pos (r3.1 hv).1]; rfl
    | some v =>
      rw [if_neg (by rw [(r3.2 v hv).1]; decide), (r3.2 v hv).2]
      cases b with
      | none => rw [if_pos (hpb.1.mpr rfl)]; rfl
      | some u =>
        rw [if_neg (fun h9 => by have := hpb.1.mp h9; cases this)]
        show (if u.2 < v then _ else _) = f_Mo_ownerFor_h7 n (nI th) (pB (if u.2 < v then some (p, v) else some u)) (pM (if u.2 < v then some (p, v) else some u)) (nI (p + 1)) s3
        by_cases c : u.2 < v
        · rw [if_pos c, if_pos c]; first | rfl | exact f_ck_of h1.b
        · rw [if_neg c, if_neg c]
theorem m_ownerFor (h : RM V s) (h50 : V 46 50 = 0) {tm ln : Int32} (h39 : V 46 39 = tm) (h38 : V 46 38 = ln) {th : Nat} (hth : th < tN V) : ∃ s' V', f_Mo_ownerFor (nI th) s = some (pB (edP V tm ln th), s') ∧ RM V' s' ∧ FM s s' ∧ eqW V V' ∧ V' 46 50 = 0 ∧ V' 46 39 = tm ∧ V' 46 38 = ln := by
  have hp4 := h.p4
  unfold f_Mo_ownerFor
  exact m_ownerFor_h tm ln (pN V) 0 zl_fl none V s h h50 h39 h38 hth (fun t ht => by cases ht) (by omega) (zl_fl_lt (by omega))
theorem edP_lt {V : Vw} {tm ln : Int32} {th : Nat} : ∀ t, edP V tm ln th = some t → t.1 < pN V := by
  intro t ht
  have := (pkL_lt _ _ _ _ (fun t ht => by cases ht) t ht).1
  omega
theorem m_edge_h {th us : Nat} {ln x3 : Int32} (up : Bool) (hx3 : x3 = 0 ↔ up = true) (hus : us < 4) : ∀ (k m n : Nat) (x5 : Int32) (V : Vw) (s : Sg), RM V s → V 46 50 = 0 → V 46 38 = ln → th < tN V → (0 < k → x5 = nI m ∧ m ≤ 40) → (k = 0 → wi x5 0 40 = false) → (up = true → m + k = 41) → (up = false → 0 < k → m + 1 = k) → k < n →
    ∃ s' V', f_Mo_edge_h67 n (nI th) x3 (nI us) x5 s = some (edL V ln th up us k m, s') ∧ RM V' s' ∧ FM s s' ∧ eqW V V' := by
  intro k
  induction k with
  | zero =>
    intro m n x5 V s h h50 h38 hth hx hx0 hu hd hn
    obtain ⟨n, rfl⟩ : ∃ m, n = m + 1 := ⟨n - 1, by omega⟩
    refine ⟨s, V, ?_, h, FM.rf s, eqW.rf V⟩
    show f_Mo_edge_b67 _ _ _ _ _ _ = _
    unfold f_Mo_edge_b67
    rw [if_neg (nI_pos (by omega)), f_bd_of (m_wi _ 0 40), hx0 rfl]
    rfl
  | succ k ih =>
    intro m n x5 V s h h50 h38 hth hx hx0 hu hd hn
    obtain ⟨n, rfl⟩ : ∃ m, n = m + 1 := ⟨n - 1, by omega⟩
    obtain ⟨rfl, hm⟩ := hx (by omega)
    have hwi : wi (nI m) 0 40 = true := by
      unfold wi
      have h1 : ¬ nI m < 0 := nI_pos (by omega)
      have h2 : ¬ (40 : Int32) < nI m := (nI_nlt hm (by decide) : ¬ nI 40 < nI m)
      simp [h1, h2]
    have h1 := h.tr (a := 46) (k := 39) rfl (by decide) (nI m)
    have w1 : eqW V (vU V 46 39 (nI m)) := eqW.vU rfl _
    obtain ⟨s2, V2, e2, h2, f2, w2, z50, z39, z38⟩ := m_ownerFor (tm := nI m) (ln := ln) h1 (by rw [vU_ne _ _ (by decide)]; exact h50) (vU_at _ _ _ _) (by rw [vU_ne _ _ (by decide)]; exact h38) (th := th) (by rw [eqW_tN w1]; exact hth)
    rw [edP_cg w1] at e2
    have hcont : ∃ s' V', f_Mo_edge_b111 (f_Mo_edge_h67 n) (nI th) x3 (nI us) (nI m) s2 = some (edL V ln th up us k (if up = true then m + 1 else m - 1), s') ∧ RM V' s' ∧ FM s s' ∧ eqW V V' := by
      have ed : ∀ up us k m, edL V2 ln th up us k m = edL V ln th up us k m := by
        intro up us k
        induction k with
        | zero => intro m; rfl
        | succ k ih =>
          intro m
          unfold edL
          rw [edP_cg (w1.trans w2), ih]
      unfold f_Mo_edge_b111 f_Mo_edge_b122
      cases up with
      | true =>
        rw [if_pos (hx3.mpr rfl), nI_1, if_pos rfl]
        have := hu rfl
        obtain ⟨s3, V3, e3, h3, f3, w3⟩ := ih (m + 1) n (nI (m + 1)) V2 s2 h2 z50 z38 (by rw [eqW_tN (w1.trans w2)]; exact hth) (fun h0 => ⟨rfl, by omega⟩) (fun h0 => by
          obtain rfl : m = 40 := by omega
          decide) (fun _ => by omega) (fun h9 => by cases h9) (by omega)
        rw [ed] at e3
        exact ⟨s3, V3, e3, h3, ((FM.uI s (a := 46) (k := 39) _ (by omega)).trans f2).trans f3, (w1.trans w2).trans w3⟩
      | false =>
        rw [if_neg (fun h9 => by have := hx3.mp h9; cases this), if_neg (by decide)]
        have hmk := hd rfl (by omega)
        have e6 : 0 < k → nI m + (-1) = nI (m - 1) := by
          intro h0
          obtain ⟨j, hj⟩ : ∃ j, m = j + 1 := ⟨m - 1, by omega⟩
          rw [hj, show (-1 : Int32) = -1 from rfl, ← Int32.sub_eq_add_neg, nI_pred]
          rfl
        obtain ⟨s3, V3, e3, h3, f3, w3⟩ := ih (m - 1) n (nI m + (-1)) V2 s2 h2 z50 z38 (by rw [eqW_tN (w1.trans w2)]; exact hth) (fun h0 => ⟨e6 h0, by omega⟩) (fun h0 => by
          obtain rfl : m = 0 := by omega
          decide) (fun h9 => by cases h9) (fun _ h0 => by omega) (by omega)
        rw [ed] at e3
        exact ⟨s3, V3, e3, h3, ((FM.uI s (a := 46) (k := 39) _ (by omega)).trans f2).trans f3, (w1.trans w2).trans w3⟩
    show ∃ s' V', f_Mo_edge_b67 _ _ _ _ _ _ = _ ∧ _
    unfold f_Mo_edge_b67 edL
    rw [if_neg (nI_pos (by omega)), f_bd_of (m_wi _ 0 40), hwi]
    simp only [if_true]
    rw [if_neg (by decide), f_ck_of h.b, f_bd_of e2]
    have hp4 := h.p4
    cases hv : edP V (nI m) ln th with
    | none =>
      rw [if_pos (show pB none < 0 by decide)]
      exact hcont
    | some t =>
      have tl := edP_lt t hv
      rw [if_neg (show ¬ pB (some t) < 0 from nI_pos (by omega))]
      by_cases c : t.1 = us
      · rw [if_pos (show pB (some t) = nI us by rw [← c]; rfl)]
        show ∃ s' V', _ = some (if t.1 = us then _ else _, s') ∧ _
        rw [if_pos c]
        exact hcont
      · rw [if_neg (show ¬ pB (some t) = nI us from nI_neq (by omega) (by omega) c)]
        show ∃ s' V', _ = some (if t.1 = us then _ else _, s') ∧ _
        rw [if_neg c]
        exact ⟨s2, V2, rfl, h2, (FM.uI s (a := 46) (k := 39) _ (by omega)).trans f2, w1.trans w2⟩
theorem m_edgeQ (h : RM V s) (x1 x2 x3 : Int32) : QM V s (f_Mo_edge x1 x2 x3 s) (aEdge V x1 x2 x3) 0 := by
  obtain ⟨h0, f0, t0⟩ := h.no
  have ht3 := h.t3
  have hk8 := h.k8
  have hp4 := h.p4
  have hno : bEdgeC V x1 x2 x3 = false → QM V s (some ((-1 : Int32), uI s 46 0 0)) (aEdge V x1 x2 x3) 0 := by
    intro e
    unfold aEdge nB
    rw [e, if_neg (by decide)]
    exact QM.mk rfl h0 f0 (eqW.rf V) t0
  have ew : wi x1 0 (nI (kN V) - 1) = xb x1 (kN V) := by
    unfold wi xb
    by_cases c1 : x1 < 0
    · simp [c1]
    · obtain ⟨k, hk, rfl⟩ := nI_of c1
      by_cases c2 : kN V = 0
      · rw [c2]
        have e1 : nI 0 - 1 < nI k := by
          have em : (nI 0 - 1).toInt = -1 := by decide
          refine Int32.lt_iff_toInt_lt.mpr ?_
          rw [nI_toInt hk, em]
          omega
        have e2 : nI 0 ≤ nI k := nI_le (by omega) hk
        simp [e1, e2]
      · obtain ⟨m, hm⟩ : ∃ m, kN V = m + 1 := ⟨kN V - 1, by omega⟩
        rw [hm, nI_pred]
        have e1 : decide (nI m < nI k) = decide (nI (m + 1) ≤ nI k) := by
          rw [decide_eq_decide, nI_ltI (by omega) hk, nI_leI (by omega) hk]
          omega
        rw [e1]
  unfold f_Mo_edge f_Mo_edge_b65
  simp only [f_ck_of h.b, h0.li, f_bd_of (m_wi x1 0 (nI (kN V) - 1)), ew, f_ck_of h0.b, f_bd_of (m_isThing h0 x2), f_bd_of (m_wi x3 0 1), ite10]
  by_cases c1 : xb x1 (kN V) = true
  · rw [if_pos c1]
    by_cases c2 : xb x2 (tN V) = true
    · rw [if_pos c2]
      by_cases c3 : wi x3 0 1 = true
      · have hc : bEdgeC V x1 x2 x3 = true := by unfold bEdgeC; rw [c1, c2, c3]; rfl
        rw [if_pos c3]
        obtain ⟨th, hth, rfl⟩ := xb_t c2 (by omega)
        obtain ⟨s1, V1, e1, h1, f1, a1⟩ := m_asItIs h0
        have h2 := h1.tr (a := 46) (k := 38) rfl (by decide) x1
        have w2 : eqW V (vU V1 46 38 x1) := a1.1.trans (eqW.vU rfl _)
        obtain ⟨s3, V3, e3, h3, f3, w3, z50, z39, z38⟩ := m_ownerFor (tm := 10) (ln := x1) h2 (by rw [vU_ne _ _ (by decide)]; exact a1.2.2.1) (show vU V1 46 38 x1 46 39 = 10 by rw [vU_ne _ _ (by decide)]; exact a1.2.1) (vU_at _ _ _ _) (th := th) (by rw [eqW_tN w2]; exact hth)
        rw [edP_cg w2] at e3
        have w4 := w2.trans w3
        have f4 : FM (uI s 46 0 0) s3 := (f1.trans (FM.uI _ (a := 46) (k := 38) _ (by omega))).trans f3
        simp only [f_bd_of e1, f_ck_of h1.b, f_bd_of e3]
        unfold aEdge nB
        rw [hc, if_pos rfl, nI_clamp (by omega)]
        have ed : ∀ up us k m, edL V3 x1 th up us k m = edL V x1 th up us k m := by
          intro up us k
          induction k with
          | zero => intro m; rfl
          | succ k ih =>
            intro m
            unfold edL
            rw [edP_cg w4, ih]
        cases hv : edP V 10 x1 th with
        | none =>
          refine QM.mk ?_ h3 (f0.trans f4.1) w4 (f4.2.trans t0)
          have hz : ∀ y, f_Mo_edge_h67 zl_fl (nI th) x3 (-1) y s3 = some (-1, s3) := by
            intro y
            show f_Mo_edge_b67 _ _ _ _ _ _ = _
            unfold f_Mo_edge_b67
            rw [if_pos (by decide)]
          by_cases k0 : x3 = 0
          · rw [if_pos k0]; exact hz _
          · rw [if_neg k0]; exact hz _
        | some t =>
          have tl := edP_lt t hv
          by_cases k0 : x3 = 0
          · obtain ⟨s5, V5, e5, h5, f5, w5⟩ := m_edge_h (th := th) (us := t.1) (ln := x1) (x3 := x3) true ⟨fun _ => rfl, fun _ => k0⟩ (by omega) 30 11 zl_fl 11 V3 s3 h3 z50 z38 (by rw [eqW_tN w4]; exact hth) (fun _ => ⟨rfl, by decide⟩) (fun h9 => by cases h9) (fun _ => rfl) (fun h9 => by cases h9) (zl_fl_lt (by decide))
            rw [ed] at e5
            rw [if_pos k0]
            show QM V s _ (if x3 = 0 then _ else _) 0
            rw [if_pos k0]
            exact QM.mk e5 h5 ((f0.trans f4.1).trans f5.1) (w4.trans w5) ((f5.2.trans f4.2).trans t0)
          · obtain ⟨s5, V5, e5, h5, f5, w5⟩ := m_edge_h (th := th) (us := t.1) (ln := x1) (x3 := x3) false ⟨fun h9 => absurd h9 k0, fun h9 => by cases h9⟩ (by omega) 10 9 zl_fl 9 V3 s3 h3 z50 z38 (by rw [eqW_tN w4]; exact hth) (fun _ => ⟨rfl, by decide⟩) (fun h9 => by cases h9) (fun h9 => by cases h9) (fun _ _ => rfl) (zl_fl_lt (by decide))
            rw [ed] at e5
            rw [if_neg k0]
            show QM V s _ (if x3 = 0 then _ else _) 0
            rw [if_neg k0]
            exact QM.mk e5 h5 ((f0.trans f4.1).trans f5.1) (w4.trans w5) ((f5.2.trans f4.2).trans t0)
      · rw [if_neg c3]; exact hno (by unfold bEdgeC; simp [c3])
    · rw [if_neg c2]; exact hno (by unfold bEdgeC; simp [c2])
  · rw [if_neg c1]; exact hno (by unfold bEdgeC; simp [c1])
end
