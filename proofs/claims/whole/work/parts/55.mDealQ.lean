/-! a right to buy, and a lender: the questions to the model -/
section
def rgO (V : Vw) (th bu : Nat) (pr : Nat) : Option Int32 := gO (dlW V 1 bu th (nI pr) (nI (2 ^ bu)))
def dlA (W : Vw) (what : Int32) (b : Nat → Bool) : Int32 := if what = 0 then nI (oN (sFar W 99 0)) else if what = 1 then sGood W (oN (sFar W 99 0)) else b2i (b (oN (sFar W 99 0)))
def bRightC (V : Vw) (x1 x2 x3 x4 : Int32) : Bool := xb x1 (tN V) && (xb x2 (pN V) && (wi x3 0 9999 && wi x4 0 2))
def rgW (V : Vw) (x1 x2 x3 : Int32) : Vw := dlW V 1 x2.toNatClampNeg x1.toNatClampNeg x3 (nI (2 ^ x2.toNatClampNeg))
def bRight (V : Vw) (x1 x2 x3 x4 : Int32) : Bool := bRightC V x1 x2 x3 x4 && (sFar (rgW V x1 x2 x3) 99 0).isSome
def aRight (V : Vw) (x1 x2 x3 x4 : Int32) : Int32 := dlA (rgW V x1 x2 x3) x4 (sBought (rgW V x1 x2 x3))
def bLendC (V : Vw) (x1 x2 x3 x4 : Int32) : Bool := xb x1 (pN V) && (xb x2 (tN V) && (wi x3 0 9999 && wi x4 0 2))
def ldW (V : Vw) (x1 x2 x3 : Int32) : Vw := dlW V 2 x1.toNatClampNeg x2.toNatClampNeg x3 0
def bLend (V : Vw) (x1 x2 x3 x4 : Int32) : Bool := bLendC V x1 x2 x3 x4 && (sFar (ldW V x1 x2 x3) 99 0).isSome
def aLend (V : Vw) (x1 x2 x3 x4 : Int32) : Int32 := dlA (ldW V x1 x2 x3) x4 (sPaid (ldW V x1 x2 x3))
def bPriceC (V : Vw) (x1 x2 x3 x4 : Int32) : Bool := xb x1 (tN V) && (xb x2 (pN V) && (wi x3 0 60 && wi x4 0 1))
def rpP (V : Vw) (x1 x2 x3 : Int32) : Pk := pkL (rgO V x1.toNatClampNeg x2.toNatClampNeg) (x3.toNatClampNeg + 1) 0 none
def bPrice (V : Vw) (x1 x2 x3 x4 : Int32) : Bool := bPriceC V x1 x2 x3 x4 && (rpP V x1 x2 x3).isSome
def aPrice (V : Vw) (x1 x2 x3 x4 : Int32) : Int32 := if x4 = 0 then pB (rpP V x1 x2 x3) else pM (rpP V x1 x2 x3)
variable {V : Vw} {s : Sg}
theorem laid_tr {V V' : Vw} {c m : Nat} {o n : Nat → Int32} (l : laid V c o n m) (hm : m ≤ 3) (h : ∀ b k, (b = 74 ∨ b = 75) → c ≤ k → k < c + 6 → V' b k = V b k) (h3 : ∀ t, V' 73 t = V 73 t ∧ V' 71 t = V 71 t ∧ V' 72 t = V 72 t) : laid V' c o n m := by
  intro t ht
  obtain ⟨a1, a2, a3, a4⟩ := l t ht
  rw [h 74 _ (Or.inl rfl) (by omega) (by omega), h 75 _ (Or.inr rfl) (by omega) (by omega), h 74 _ (Or.inl rfl) (by omega) (by omega), h 75 _ (Or.inr rfl) (by omega) (by omega), (h3 t).1, (h3 t).2.1, (h3 t).2.2]
  exact ⟨a1, a2, a3, a4⟩
theorem m_dealP (h : RM V s) {th pe : Nat} (hth : th < tN V) (hpe : pe < pN V) {ow md : Int32} (how : is_n ow 15) (hmd : md = 1 ∨ md = 2) (su : Int32) :
    ∃ s1 s2 s3 V4, f_Mo_asItIs s = some ((), s1) ∧ zl_B s1 ∧ f_Mo_laysAll 6 s1 = some ((), s2) ∧ zl_B s2 ∧ f_Mo_lays 6 (nI th) ow 1 s2 = some ((), s3) ∧ zl_B s3 ∧
      RM V4 (uL (uI (uI (uI s3 46 50 md) 46 51 (nI pe)) 46 52 (nI th)) 46 53 (240 * su.toInt64)) ∧ FM s (uL (uI (uI (uI s3 46 50 md) 46 51 (nI pe)) 46 52 (nI th)) 46 53 (240 * su.toInt64)) ∧ eqW V V4 ∧ eqQ (dlW V md pe th su ow) V4 ∧ MX V4 := by
  have ht3 := h.t3
  have hp4 := h.p4
  obtain ⟨s1, V1, e1, h1, f1, a1⟩ := m_asItIs h
  obtain ⟨s2, V2, e2, h2, f2, w2, o2, n2, l2⟩ := m_laysAll h1 (c := 6) (by decide)
  obtain ⟨s3, e3, h3, f3⟩ := m_lays h2 (c := 6) (t := th) (by decide) (by omega) ow 1
  have h4 := ((h3.tr (a := 46) (k := 50) rfl (by decide) md).tr (a := 46) (k := 51) rfl (by decide) (nI pe)).tr (a := 46) (k := 52) rfl (by decide) (nI th)
  have h5 := h4.ms su
  have hw3 : eqW V (vLay V2 6 th ow 1) := (a1.1.trans w2).trans (vLay_eq V2 6 th ow 1)
  have hw : eqW V (vU (vU (vU (vU (vLay V2 6 th ow 1) 46 50 md) 46 51 (nI pe)) 46 52 (nI th)) 46 53 su) := (((hw3.trans (eqW.vU rfl _)).trans (eqW.vU rfl _)).trans (eqW.vU rfl _)).trans (eqW.vU rfl _)
  have hb : ∀ b k, b ≠ 46 → vU (vU (vU (vU (vLay V2 6 th ow 1) 46 50 md) 46 51 (nI pe)) 46 52 (nI th)) 46 53 su b k = vLay V2 6 th ow 1 b k := by
    intro b k hb
    rw [vU_ne _ _ (fun e => hb e.1), vU_ne _ _ (fun e => hb e.1), vU_ne _ _ (fun e => hb e.1), vU_ne _ _ (fun e => hb e.1)]
  have hl0 : laid (vU (vU (vU (vU (vLay V2 6 th ow 1) 46 50 md) 46 51 (nI pe)) 46 52 (nI th)) 46 53 su) 0 (fun t => V 69 t) (fun t => V 70 t) 3 := by
    refine laid_tr a1.2.2.2 (by decide) (fun b k hbk _ hk => ?_) (fun t => ?_)
    · rw [hb b k (by omega), vLay_off V2 (c := 6) (t := th) (by omega) ow 1 b k hbk (by omega), o2 b k hbk (by omega)]
    · rw [hb 73 t (by decide), hb 71 t (by decide), hb 72 t (by decide), vLay_no _ _ _ _ _ _ _ (by decide), vLay_no _ _ _ _ _ _ _ (by decide), vLay_no _ _ _ _ _ _ _ (by decide), n2 _ _ (by decide), n2 _ _ (by decide), n2 _ _ (by decide)]
      exact ⟨rfl, rfl, rfl⟩
  have hl6' : laid (vLay V2 6 th ow 1) 6 (updF (fun t => V 69 t) th ow) (updF (fun t => V 70 t) th 1) 3 := by
    intro t ht
    simp only [vLay_no V2 6 th _ _ 73 _ (by decide), vLay_no V2 6 th _ _ 71 _ (by decide), vLay_no V2 6 th _ _ 72 _ (by decide)]
    unfold updF
    by_cases e : t = th
    · subst e
      simp only [if_true]
      exact vLay_at V2 ht ow 1
    · simp only [if_neg e]
      have h9 := vLay_ot V2 (c := 6) (t := th) (by omega) ht e ow 1
      have h8 := l2 t ht
      rw [h9.1, h9.2.1, h9.2.2.1, h9.2.2.2]
      have e69 : V1 69 t = V 69 t := a1.1 69 t rfl
      have e70 : V1 70 t = V 70 t := a1.1 70 t rfl
      simp only [e69, e70, ← n2 73 t (by decide), ← n2 71 t (by decide), ← n2 72 t (by decide)] at h8
      exact h8
  have hl6 := laid_tr (V' := vU (vU (vU (vU (vLay V2 6 th ow 1) 46 50 md) 46 51 (nI pe)) 46 52 (nI th)) 46 53 su) hl6' (by decide) (fun b k hbk _ _ => hb b k (by omega)) (fun t => ⟨hb 73 t (by decide), hb 71 t (by decide), hb 72 t (by decide)⟩)
  have h39 : vU (vU (vU (vU (vLay V2 6 th ow 1) 46 50 md) 46 51 (nI pe)) 46 52 (nI th)) 46 53 su 46 39 = 10 := by
    rw [vU_ne _ _ (by decide), vU_ne _ _ (by decide), vU_ne _ _ (by decide), vU_ne _ _ (by decide), vLay_no _ _ _ _ _ _ _ (by decide), n2 _ _ (by decide), a1.2.1]
  have h50 : vU (vU (vU (vU (vLay V2 6 th ow 1) 46 50 md) 46 51 (nI pe)) 46 52 (nI th)) 46 53 su 46 50 = md := by
    rw [vU_ne _ _ (by decide), vU_ne _ _ (by decide), vU_ne _ _ (by decide), vU_at]
  have h51 : vU (vU (vU (vU (vLay V2 6 th ow 1) 46 50 md) 46 51 (nI pe)) 46 52 (nI th)) 46 53 su 46 51 = nI pe := by
    rw [vU_ne _ _ (by decide), vU_ne _ _ (by decide), vU_at]
  have h52 : vU (vU (vU (vU (vLay V2 6 th ow 1) 46 50 md) 46 51 (nI pe)) 46 52 (nI th)) 46 53 su 46 52 = nI th := by
    rw [vU_ne _ _ (by decide), vU_at]
  have h53 : vU (vU (vU (vU (vLay V2 6 th ow 1) 46 50 md) 46 51 (nI pe)) 46 52 (nI th)) 46 53 su 46 53 = su := vU_at _ _ _ _
  generalize hV4 : vU (vU (vU (vU (vLay V2 6 th ow 1) 46 50 md) 46 51 (nI pe)) 46 52 (nI th)) 46 53 su = V4 at *
  have c0 := eqC_of (W := dlW V md pe th su ow) kW_eq hw kW_la0 hl0 ht3
  have c6 := eqC_of (W := dlW V md pe th su ow) kW_eq hw kW_la6 hl6 ht3
  have lim : ∀ t, t < 3 → is_n (updF (fun t => V 69 t) th ow t) 15 ∧ is_n (updF (fun t => V 70 t) th 1 t) 4 := by
    intro t ht
    have := own_lim h.w t ht
    unfold updF
    split
    · exact ⟨how, ⟨1, by decide, rfl⟩⟩
    · exact this
  have m0 := CX_laid h.w (laid_le hl0 ht3) hw (fun t ht => own_lim h.w t (by omega))
  have m6 := CX_laid h.w (laid_le hl6 ht3) hw (fun t ht => lim t (by omega))
  refine ⟨s1, s2, s3, V4, e1, h1.b, e2, h2.b, e3, h3.b, h5, ?_, hw, ⟨eqT_of kW_eq hw h39 (Or.inl kW_39), c0.1, c0.2, h50, Or.inr ⟨c6.1, c6.2, h51, h52, h53, fun t => (hw 69 t rfl).trans (kW_no (a := 69) rfl).symm⟩⟩, ?_⟩
  · exact (((((f1.trans f2).trans f3).trans (FM.uI _ (a := 46) (k := 50) _ (by omega))).trans (FM.uI _ (a := 46) (k := 51) _ (by omega))).trans (FM.uI _ (a := 46) (k := 52) _ (by omega))).trans (FM.uL _ (a := 46) (k := 53) _ (by omega))
  · refine ⟨m0.1, m0.2, Or.inr ⟨by rw [h50]; exact hmd, m6.1, m6.2, ?_, ?_⟩⟩
    · unfold cN; rw [h51, nI_clamp (by omega), eqW_pN hw]; exact ⟨rfl, hpe⟩
    · unfold cN; rw [h52, nI_clamp (by omega), eqW_tN hw]; exact ⟨rfl, hth⟩
theorem own1_lim : ∀ p, p < 4 → is_n (nI (2 ^ p)) 15 := fun p hp => ⟨2 ^ p, by
  have h4 : p = 0 ∨ p = 1 ∨ p = 2 ∨ p = 3 := by omega
  rcases h4 with rfl | rfl | rfl | rfl <;> decide, rfl⟩
theorem m_rightPains (h : RM V s) {th bu : Nat} (hth : th < tN V) (hbu : bu < pN V) (pr : Int32) : ∃ s' V', f_Mo_rightPains (nI th) (nI bu) pr s = some (oI (sFar (dlW V 1 bu th pr (nI (2 ^ bu))) 99 0), s') ∧ RM V' s' ∧ FM s s' ∧ eqW V V' ∧ eqQ (dlW V 1 bu th pr (nI (2 ^ bu))) V' ∧ MX V' ∧ (∀ t, sFar (dlW V 1 bu th pr (nI (2 ^ bu))) 99 0 = some t → t.1 < 256) := by
  have hp4 := h.p4
  obtain ⟨s1, s2, s3, V4, e1, b1, e2, b2, e3, b3, h4, f4, w4, q4, M4⟩ := m_dealP h hth hbu (own1_lim bu (by omega)) (Or.inl rfl) pr
  obtain ⟨s5, e5, h5, f5, t5⟩ := m_turnsOut h4 M4
  rw [cg_sFar q4] at e5 t5
  refine ⟨s5, V4, ?_, h5, f4.trans f5, w4, q4, M4, fun t ht => (t5 t ht).2⟩
  unfold f_Mo_rightPains
  simp only [f_ck_of h.b, f_bd_of e1, f_ck_of b1, f_bd_of e2, f_ck_of b2, shl_p bu (by omega), f_bd_of e3, f_ck_of b3, f_bd_of e5]
theorem sBought_cg {W X : Vw} (h : eqQ W X) (h1 : ¬ W 46 50 = 0) (q : Nat) : sBought X q = sBought W q ∧ sPaid X q = sPaid W q := by
  obtain ⟨hT, c0, c3, e50, hm⟩ := h
  rcases hm with hm | ⟨c6, c9, e51, e52, e53, e69⟩
  · exact absurd hm h1
  have k0 := fun p q => cg_sShI hT c0 c3 p q
  have k6 := fun p q => cg_sShI hT c6 c9 p q
  have eS : mS X = mS W := by unfold mS; rw [e53]
  have eP : ∀ p, sPay X p = sPay W p := fun p => by unfold sPay cN; rw [e52, e69, eS]
  exact ⟨by unfold sBought cN; rw [e51, k6, k0, eS, eP], by unfold sPaid cN; rw [e51, k0, eS]⟩
theorem m_rightQ (h : RM V s) (x1 x2 x3 x4 : Int32) : QM V s (f_Mo_right x1 x2 x3 x4 s) (gB (bRight V x1 x2 x3 x4) (aRight V x1 x2 x3 x4)) (tB (bRight V x1 x2 x3 x4)) := by
  have hp4 := h.p4
  have ht3 := h.t3
  have hn : bRightC V x1 x2 x3 x4 = false → QM V s (f_Mo_right_b43 x1 x2 x3 x4 1 s) (gB (bRight V x1 x2 x3 x4) (aRight V x1 x2 x3 x4)) (tB (bRight V x1 x2 x3 x4)) := by
    intro e
    unfold bRight
    rw [e]
    have ft := FO_th (FO.rf s) 1
    unfold f_Mo_right_b43
    simp only [f_ck_of h.b, ft.2]
    rw [if_pos trivial]
    exact QM.mk rfl (h.sc 46 0 1 rfl) ft.1 (eqW.rf V) ft.2
  unfold f_Mo_right f_Mo_right_b42
  simp only [f_ck_of h.b, f_bd_of (m_isThing h x1), f_bd_of (m_isPerson h x2), f_bd_of (m_wi x3 0 9999), f_bd_of (m_wi x4 0 2), ite10]
  by_cases c1 : xb x1 (tN V) = true
  · rw [if_pos c1]
    by_cases c2 : xb x2 (pN V) = true
    · rw [if_pos c2]
      by_cases c3 : wi x3 0 9999 = true
      · rw [if_pos c3]
        by_cases c4 : wi x4 0 2 = true
        · have hc : bRightC V x1 x2 x3 x4 = true := by unfold bRightC; rw [c1, c2, c3, c4]; rfl
          rw [if_pos c4]
          obtain ⟨th, hth, rfl⟩ := xb_t c1 (by omega)
          obtain ⟨bu, hbu, rfl⟩ := xb_t c2 (by omega)
          have ft := FO_th (FO.rf s) 0
          have h1 := h.sc 46 0 0 rfl
          obtain ⟨s2, V2, e2, h2, f2, w2, q2, M2, t2⟩ := m_rightPains h1 hth hbu x3
          unfold f_Mo_right_b43
          simp only [f_ck_of h.b, ft.2, f_bd_of e2]
          rw [if_neg (by decide)]
          unfold bRight aRight rgW
          rw [hc, nI_clamp (by omega), nI_clamp (by omega), Bool.true_and]
          have fx := fun t => FO_th (ft.1.trans f2.1) t
          have hx := fun t => h2.sc 46 0 t rfl
          cases hf : sFar (dlW V 1 bu th x3 (nI (2 ^ bu))) 99 0 with
          | none =>
            rw [if_neg (show ¬ (0 : Int32) ≤ oI none by decide)]
            unfold f_Mo_right_b76
            simp only [f_ck_of h2.b, (fx 1).2]
            rw [if_pos trivial]
            exact QM.mk rfl (hx 1) (fx 1).1 w2 (fx 1).2
          | some t =>
            have tl := t2 t hf
            rw [if_pos (show (0 : Int32) ≤ oI (some t) from nI_pos' (by omega))]
            unfold f_Mo_right_b76
            simp only [f_ck_of h2.b, (fx 0).2]
            rw [if_neg (by decide)]
            unfold dlA
            rw [hf]
            show QM V s _ (if x4 = 0 then nI t.1 else if x4 = 1 then sGood (dlW V 1 bu th x3 (nI (2 ^ bu))) t.1 else b2i (sBought (dlW V 1 bu th x3 (nI (2 ^ bu))) t.1)) 0
            by_cases k0 : x4 = 0
            · rw [if_pos k0, if_pos k0]; exact QM.mk rfl (hx 0) (fx 0).1 w2 (fx 0).2
            · rw [if_neg k0, if_neg k0]
              by_cases k1 : x4 = 1
              · rw [if_pos k1, if_pos k1, ← cg_sGood q2.1]
                exact QM.mk (rn_bd (m_goodOf (hx 0) tl) rfl) (hx 0) (fx 0).1 w2 (fx 0).2
              · rw [if_neg k1, if_neg k1, ← (sBought_cg q2 (by rw [show dlW V 1 bu th x3 (nI (2 ^ bu)) 46 50 = 1 from kW_50]; decide) t.1).1]
                refine QM.mk (rn_bd (m_isBought (hx 0) M2 (q2.2.2.2.1.trans kW_50) tl) ?_) (hx 0) (fx 0).1 w2 (fx 0).2
                unfold b2i
                by_cases k3 : sBought V2 t.1 = true
                · simp only [if_pos k3]; rfl
                · simp only [if_neg k3]; rfl
        · rw [if_neg c4]; exact hn (by unfold bRightC; simp [c4])
      · rw [if_neg c3]; exact hn (by unfold bRightC; simp [c3])
    · rw [if_neg c2]; exact hn (by unfold bRightC; simp [c2])
  · rw [if_neg c1]; exact hn (by unfold bRightC; simp [c1])
theorem m_lenderQ (h : RM V s) (x1 x2 x3 x4 : Int32) : QM V s (f_Mo_lender x1 x2 x3 x4 s) (gB (bLend V x1 x2 x3 x4) (aLend V x1 x2 x3 x4)) (tB (bLend V x1 x2 x3 x4)) := by
  have hp4 := h.p4
  have ht3 := h.t3
  have hn : bLendC V x1 x2 x3 x4 = false → QM V s (f_Mo_lender_b43 x1 x2 x3 x4 1 s) (gB (bLend V x1 x2 x3 x4) (aLend V x1 x2 x3 x4)) (tB (bLend V x1 x2 x3 x4)) := by
    intro e
    unfold bLend
    rw [e]
    have ft := FO_th (FO.rf s) 1
    unfold f_Mo_lender_b43
    simp only [f_ck_of h.b, ft.2]
    rw [if_pos trivial]
    exact QM.mk rfl (h.sc 46 0 1 rfl) ft.1 (eqW.rf V) ft.2
  unfold f_Mo_lender f_Mo_lender_b42
  simp only [f_ck_of h.b, f_bd_of (m_isThing h x2), f_bd_of (m_isPerson h x1), f_bd_of (m_wi x3 0 9999), f_bd_of (m_wi x4 0 2), ite10]
  by_cases c1 : xb x1 (pN V) = true
  · rw [if_pos c1]
    by_cases c2 : xb x2 (tN V) = true
    · rw [if_pos c2]
      by_cases c3 : wi x3 0 9999 = true
      · rw [if_pos c3]
        by_cases c4 : wi x4 0 2 = true
        · have hc : bLendC V x1 x2 x3 x4 = true := by unfold bLendC; rw [c1, c2, c3, c4]; rfl
          rw [if_pos c4]
          obtain ⟨pe, hpe, rfl⟩ := xb_t c1 (by omega)
          obtain ⟨th, hth, rfl⟩ := xb_t c2 (by omega)
          have ft := FO_th (FO.rf s) 0
          have h1 := h.sc 46 0 0 rfl
          obtain ⟨s1, s2, s3, V2, e1, b1, e2, b2, e3, b3, h4, f4, w2, q2, M2⟩ := m_dealP h1 hth hpe (ow := 0) (md := 2) ⟨0, by decide, rfl⟩ (Or.inr rfl) x3
          obtain ⟨s5, e5, h5, f5, t5⟩ := m_turnsOut h4 M2
          rw [cg_sFar q2] at e5 t5
          unfold f_Mo_lender_b43
          simp only [f_ck_of h.b, ft.2, f_bd_of e1, f_ck_of b1, f_bd_of e2, f_ck_of b2, f_bd_of e3, f_ck_of b3, f_bd_of e5]
          rw [if_neg (by decide)]
          unfold bLend aLend ldW
          rw [hc, nI_clamp (by omega), nI_clamp (by omega), Bool.true_and]
          have fx := fun t => FO_th (ft.1.trans (f4.trans f5).1) t
          have hx := fun t => h5.sc 46 0 t rfl
          cases hf : sFar (dlW V 2 pe th x3 0) 99 0 with
          | none =>
            rw [if_neg (show ¬ (0 : Int32) ≤ oI none by decide)]
            unfold f_Mo_lender_b119
            simp only [f_ck_of h5.b, (fx 1).2]
            rw [if_pos trivial]
            exact QM.mk rfl (hx 1) (fx 1).1 w2 (fx 1).2
          | some t =>
            have tl := (t5 t hf).2
            rw [if_pos (show (0 : Int32) ≤ oI (some t) from nI_pos' (by omega))]
            unfold f_Mo_lender_b119
            simp only [f_ck_of h5.b, (fx 0).2]
            rw [if_neg (by decide)]
            unfold dlA
            rw [hf]
            show QM V s _ (if x4 = 0 then nI t.1 else if x4 = 1 then sGood (dlW V 2 pe th x3 0) t.1 else b2i (sPaid (dlW V 2 pe th x3 0) t.1)) 0
            by_cases k0 : x4 = 0
            · rw [if_pos k0, if_pos k0]; exact QM.mk rfl (hx 0) (fx 0).1 w2 (fx 0).2
            · rw [if_neg k0, if_neg k0]
              by_cases k1 : x4 = 1
              · rw [if_pos k1, if_pos k1, ← cg_sGood q2.1]
                exact QM.mk (rn_bd (m_goodOf (hx 0) tl) rfl) (hx 0) (fx 0).1 w2 (fx 0).2
              · rw [if_neg k1, if_neg k1, ← (sBought_cg q2 (by rw [show dlW V 2 pe th x3 0 46 50 = 2 from kW_50]; decide) t.1).2]
                refine QM.mk (rn_bd (m_isPaid (hx 0) M2 (q2.2.2.2.1.trans kW_50) tl) ?_) (hx 0) (fx 0).1 w2 (fx 0).2
                unfold b2i
                by_cases k3 : sPaid V2 t.1 = true
                · simp only [if_pos k3]; rfl
                · simp only [if_neg k3]; rfl
        · rw [if_neg c4]; exact hn (by unfold bLendC; simp [c4])
      · rw [if_neg c3]; exact hn (by unfold bLendC; simp [c3])
    · rw [if_neg c2]; exact hn (by unfold bLendC; simp [c2])
  · rw [if_neg c1]; exact hn (by unfold bLendC; simp [c1])
end
