/-! the law's calls that may throw -/
section
variable {V : Vw} {s : Sg} {i L : Nat} {P : Int32 → Sg → Prop}

theorem lc_worth (R23 : Int32 → Sg → Option (Int32 × Sg)) (hR : ∀ s2 V2, RC V2 (i + 1) s2 → SC L s2 → okx P (R23 (nI (7 * (i + 1))) s2)) (h : RC V i s) (hs : SC L s) (hi : 7 * i + 7 ≤ L) (hL : L ≤ 3584) : okx P (f_La_law_b393 R23 (nI (7 * i)) s) := by
  have h0 := h.1.b
  have hC := la_I (kq_worth h.2.1 h.2.2.1 (mI s 0 (7 * i + 1)) (mI s 0 (7 * i + 2)) (mI s 0 (7 * i + 3)))
  obtain ⟨s1, s2, V2, e1, e2, r2, b1, b2, t2, x1, m2, k0⟩ := both h hC (fun s1 hr => m_worthQ hr (mI s 0 (7 * i + 1)) (mI s 0 (7 * i + 2)) (mI s 0 (7 * i + 3)))
  have e1' : f_La_worth (mI s 0 (7 * i + 1)) (mI s 0 (7 * i + 2)) (mI s 0 (7 * i + 3)) s = _ := (f_ck_of h0).trans e1
  clear e1 hC
  have c1 : nI (7 * i) + 1 = nI (7 * i + 1) := nI_add (7 * i) 1
  have d1 : (nI (7 * i + 1)).toNatClampNeg = 7 * i + 1 := nI_clamp (by omega)
  have v1 : vp_in (nI (7 * i + 1)) L := vp_in_nI (by omega) (by omega)
  have c2 : nI (7 * i) + 2 = nI (7 * i + 2) := nI_add (7 * i) 2
  have d2 : (nI (7 * i + 2)).toNatClampNeg = 7 * i + 2 := nI_clamp (by omega)
  have v2 : vp_in (nI (7 * i + 2)) L := vp_in_nI (by omega) (by omega)
  have c3 : nI (7 * i) + 3 = nI (7 * i + 3) := nI_add (7 * i) 3
  have d3 : (nI (7 * i + 3)).toNatClampNeg = 7 * i + 3 := nI_clamp (by omega)
  have v3 : vp_in (nI (7 * i + 3)) L := vp_in_nI (by omega) (by omega)
  have c7 : nI (7 * i) + 7 = nI (7 * (i + 1)) := nI_add (7 * i) 7
  have eL : (nI L).toNatClampNeg = L := nI_clamp (by omega)
  have k1 : ∀ k, mI s1 0 k = mI s 0 k := fun k => (k0 k).1
  have hs9 : mI s 0 4000 = nI L := hs
  have e3 := f_thr b2 t2
  have fin := hR s2 V2 r2 ((k0 4000).2.trans hs)
  unfold f_La_law_b393 f_La_law_b470 f_La_law_b1966
  simp only [k1, hs9, eL, f_ck_of h0, f_ck_of b1, f_ck_of b2, f_bd_of e1', f_bd_of e2, f_bd_of e3, if_true, c7, c1, d1, f_ck_of v1, c2, d2, f_ck_of v2, c3, d3, f_ck_of v3]
  revert x1
  generalize hb : bWorth V (mI s 0 (7 * i + 1)) (mI s 0 (7 * i + 2)) (mI s 0 (7 * i + 3)) = b
  cases b with
  | false =>
    intro x1
    rw [if_neg (show ¬ tB false = 0 by decide)]
    exact fin
  | true =>
    intro x1
    rw [if_pos (show tB true = 0 from rfl), show Int32.toNatClampNeg (0 : Int32) = 0 from rfl, m2, x1 rfl]
    split
    · exact fin
    · rename_i h9
      exact absurd (lg_self _) h9

theorem lc_makes (R23 : Int32 → Sg → Option (Int32 × Sg)) (hR : ∀ s2 V2, RC V2 (i + 1) s2 → SC L s2 → okx P (R23 (nI (7 * (i + 1))) s2)) (h : RC V i s) (hs : SC L s) (hi : 7 * i + 7 ≤ L) (hL : L ≤ 3584) : okx P (f_La_law_b658 R23 (nI (7 * i)) s) := by
  have h0 := h.1.b
  have hC := la_I (kq_makes h.2.1 h.2.2.1 (mI s 0 (7 * i + 1)) (mI s 0 (7 * i + 2)))
  obtain ⟨s1, s2, V2, e1, e2, r2, b1, b2, t2, x1, m2, k0⟩ := both h hC (fun s1 hr => m_makesQ hr (mI s 0 (7 * i + 1)) (mI s 0 (7 * i + 2)))
  have e1' : f_La_makes (mI s 0 (7 * i + 1)) (mI s 0 (7 * i + 2)) s = _ := (f_ck_of h0).trans e1
  clear e1 hC
  have c1 : nI (7 * i) + 1 = nI (7 * i + 1) := nI_add (7 * i) 1
  have d1 : (nI (7 * i + 1)).toNatClampNeg = 7 * i + 1 := nI_clamp (by omega)
  have v1 : vp_in (nI (7 * i + 1)) L := vp_in_nI (by omega) (by omega)
  have c2 : nI (7 * i) + 2 = nI (7 * i + 2) := nI_add (7 * i) 2
  have d2 : (nI (7 * i + 2)).toNatClampNeg = 7 * i + 2 := nI_clamp (by omega)
  have v2 : vp_in (nI (7 * i + 2)) L := vp_in_nI (by omega) (by omega)
  have c7 : nI (7 * i) + 7 = nI (7 * (i + 1)) := nI_add (7 * i) 7
  have eL : (nI L).toNatClampNeg = L := nI_clamp (by omega)
  have k1 : ∀ k, mI s1 0 k = mI s 0 k := fun k => (k0 k).1
  have hs9 : mI s 0 4000 = nI L := hs
  have e3 := f_thr b2 t2
  have fin := hR s2 V2 r2 ((k0 4000).2.trans hs)
  unfold f_La_law_b658 f_La_law_b723 f_La_law_b1966
  simp only [k1, hs9, eL, f_ck_of h0, f_ck_of b1, f_ck_of b2, f_bd_of e1', f_bd_of e2, f_bd_of e3, if_true, c7, c1, d1, f_ck_of v1, c2, d2, f_ck_of v2]
  revert x1
  generalize hb : bMakes V (mI s 0 (7 * i + 1)) (mI s 0 (7 * i + 2)) = b
  cases b with
  | false =>
    intro x1
    rw [if_neg (show ¬ tB false = 0 by decide)]
    exact fin
  | true =>
    intro x1
    rw [if_pos (show tB true = 0 from rfl), show Int32.toNatClampNeg (0 : Int32) = 0 from rfl, m2, x1 rfl]
    split
    · exact fin
    · rename_i h9
      exact absurd (lg_self _) h9

theorem lc_share (R23 : Int32 → Sg → Option (Int32 × Sg)) (hR : ∀ s2 V2, RC V2 (i + 1) s2 → SC L s2 → okx P (R23 (nI (7 * (i + 1))) s2)) (h : RC V i s) (hs : SC L s) (hi : 7 * i + 7 ≤ L) (hL : L ≤ 3584) : okx P (f_La_law_b763 R23 (nI (7 * i)) s) := by
  have h0 := h.1.b
  have hC := la_L (kq_share h.2.1 h.2.2.1 (mI s 0 (7 * i + 1)) (mI s 0 (7 * i + 2)) (mI s 0 (7 * i + 3)))
  obtain ⟨s1, s2, V2, e1, e2, r2, b1, b2, t2, x1, m2, k0⟩ := both h hC (fun s1 hr => m_shareQ hr (mI s 0 (7 * i + 1)) (mI s 0 (7 * i + 2)) (mI s 0 (7 * i + 3)))
  have e1' : f_La_share (mI s 0 (7 * i + 1)) (mI s 0 (7 * i + 2)) (mI s 0 (7 * i + 3)) s = _ := (f_ck_of h0).trans e1
  clear e1 hC
  have c1 : nI (7 * i) + 1 = nI (7 * i + 1) := nI_add (7 * i) 1
  have d1 : (nI (7 * i + 1)).toNatClampNeg = 7 * i + 1 := nI_clamp (by omega)
  have v1 : vp_in (nI (7 * i + 1)) L := vp_in_nI (by omega) (by omega)
  have c2 : nI (7 * i) + 2 = nI (7 * i + 2) := nI_add (7 * i) 2
  have d2 : (nI (7 * i + 2)).toNatClampNeg = 7 * i + 2 := nI_clamp (by omega)
  have v2 : vp_in (nI (7 * i + 2)) L := vp_in_nI (by omega) (by omega)
  have c3 : nI (7 * i) + 3 = nI (7 * i + 3) := nI_add (7 * i) 3
  have d3 : (nI (7 * i + 3)).toNatClampNeg = 7 * i + 3 := nI_clamp (by omega)
  have v3 : vp_in (nI (7 * i + 3)) L := vp_in_nI (by omega) (by omega)
  have c7 : nI (7 * i) + 7 = nI (7 * (i + 1)) := nI_add (7 * i) 7
  have eL : (nI L).toNatClampNeg = L := nI_clamp (by omega)
  have k1 : ∀ k, mI s1 0 k = mI s 0 k := fun k => (k0 k).1
  have hs9 : mI s 0 4000 = nI L := hs
  have e3 := f_thr b2 t2
  have fin := hR s2 V2 r2 ((k0 4000).2.trans hs)
  unfold f_La_law_b763 f_La_law_b839 f_La_law_b1966
  simp only [k1, hs9, eL, f_ck_of h0, f_ck_of b1, f_ck_of b2, f_bd_of e1', f_bd_of e2, f_bd_of e3, if_true, c7, c1, d1, f_ck_of v1, c2, d2, f_ck_of v2, c3, d3, f_ck_of v3]
  revert x1
  generalize hb : bShare V (mI s 0 (7 * i + 1)) (mI s 0 (7 * i + 2)) (mI s 0 (7 * i + 3)) = b
  cases b with
  | false =>
    intro x1
    rw [if_neg (show ¬ tB false = 0 by decide)]
    exact fin
  | true =>
    intro x1
    rw [if_pos (show tB true = 0 from rfl), show Int32.toNatClampNeg (0 : Int32) = 0 from rfl, m2, x1 rfl]
    split
    · exact fin
    · rename_i h9
      exact absurd (lg_self _) h9

theorem lc_rest (R23 : Int32 → Sg → Option (Int32 × Sg)) (hR : ∀ s2 V2, RC V2 (i + 1) s2 → SC L s2 → okx P (R23 (nI (7 * (i + 1))) s2)) (h : RC V i s) (hs : SC L s) (hi : 7 * i + 7 ≤ L) (hL : L ≤ 3584) : okx P (f_La_law_b904 R23 (nI (7 * i)) s) := by
  have h0 := h.1.b
  have hC := la_I (kq_rest h.2.1 h.2.2.1 (mI s 0 (7 * i + 1)))
  obtain ⟨s1, s2, V2, e1, e2, r2, b1, b2, t2, x1, m2, k0⟩ := both h hC (fun s1 hr => m_restQ hr (mI s 0 (7 * i + 1)))
  have e1' : f_La_rest (mI s 0 (7 * i + 1)) s = _ := (f_ck_of h0).trans e1
  clear e1 hC
  have c1 : nI (7 * i) + 1 = nI (7 * i + 1) := nI_add (7 * i) 1
  have d1 : (nI (7 * i + 1)).toNatClampNeg = 7 * i + 1 := nI_clamp (by omega)
  have v1 : vp_in (nI (7 * i + 1)) L := vp_in_nI (by omega) (by omega)
  have c7 : nI (7 * i) + 7 = nI (7 * (i + 1)) := nI_add (7 * i) 7
  have eL : (nI L).toNatClampNeg = L := nI_clamp (by omega)
  have k1 : ∀ k, mI s1 0 k = mI s 0 k := fun k => (k0 k).1
  have hs9 : mI s 0 4000 = nI L := hs
  have e3 := f_thr b2 t2
  have fin := hR s2 V2 r2 ((k0 4000).2.trans hs)
  unfold f_La_law_b904 f_La_law_b957 f_La_law_b1966
  simp only [k1, hs9, eL, f_ck_of h0, f_ck_of b1, f_ck_of b2, f_bd_of e1', f_bd_of e2, f_bd_of e3, if_true, c7, c1, d1, f_ck_of v1]
  revert x1
  generalize hb : bRest V (mI s 0 (7 * i + 1)) = b
  cases b with
  | false =>
    intro x1
    rw [if_neg (show ¬ tB false = 0 by decide)]
    exact fin
  | true =>
    intro x1
    rw [if_pos (show tB true = 0 from rfl), show Int32.toNatClampNeg (0 : Int32) = 0 from rfl, m2, x1 rfl]
    split
    · exact fin
    · rename_i h9
      exact absurd (lg_self _) h9

theorem lc_good (R23 : Int32 → Sg → Option (Int32 × Sg)) (hR : ∀ s2 V2, RC V2 (i + 1) s2 → SC L s2 → okx P (R23 (nI (7 * (i + 1))) s2)) (h : RC V i s) (hs : SC L s) (hi : 7 * i + 7 ≤ L) (hL : L ≤ 3584) : okx P (f_La_law_b985 R23 (nI (7 * i)) s) := by
  have h0 := h.1.b
  have hC := la_I (kq_good h.2.1 h.2.2.1 (mI s 0 (7 * i + 1)))
  obtain ⟨s1, s2, V2, e1, e2, r2, b1, b2, t2, x1, m2, k0⟩ := both h hC (fun s1 hr => m_goodQ hr (mI s 0 (7 * i + 1)))
  have e1' : f_La_good (mI s 0 (7 * i + 1)) s = _ := (f_ck_of h0).trans e1
  clear e1 hC
  have c1 : nI (7 * i) + 1 = nI (7 * i + 1) := nI_add (7 * i) 1
  have d1 : (nI (7 * i + 1)).toNatClampNeg = 7 * i + 1 := nI_clamp (by omega)
  have v1 : vp_in (nI (7 * i + 1)) L := vp_in_nI (by omega) (by omega)
  have c7 : nI (7 * i) + 7 = nI (7 * (i + 1)) := nI_add (7 * i) 7
  have eL : (nI L).toNatClampNeg = L := nI_clamp (by omega)
  have k1 : ∀ k, mI s1 0 k = mI s 0 k := fun k => (k0 k).1
  have hs9 : mI s 0 4000 = nI L := hs
  have e3 := f_thr b2 t2
  have fin := hR s2 V2 r2 ((k0 4000).2.trans hs)
  unfold f_La_law_b985 f_La_law_b1038 f_La_law_b1966
  simp only [k1, hs9, eL, f_ck_of h0, f_ck_of b1, f_ck_of b2, f_bd_of e1', f_bd_of e2, f_bd_of e3, if_true, c7, c1, d1, f_ck_of v1]
  revert x1
  generalize hb : bGood V (mI s 0 (7 * i + 1)) = b
  cases b with
  | false =>
    intro x1
    rw [if_neg (show ¬ tB false = 0 by decide)]
    exact fin
  | true =>
    intro x1
    rw [if_pos (show tB true = 0 from rfl), show Int32.toNatClampNeg (0 : Int32) = 0 from rfl, m2, x1 rfl]
    split
    · exact fin
    · rename_i h9
      exact absurd (lg_self _) h9

theorem lc_best (R23 : Int32 → Sg → Option (Int32 × Sg)) (hR : ∀ s2 V2, RC V2 (i + 1) s2 → SC L s2 → okx P (R23 (nI (7 * (i + 1))) s2)) (h : RC V i s) (hs : SC L s) (hi : 7 * i + 7 ≤ L) (hL : L ≤ 3584) : okx P (f_La_law_b1041 R23 (nI (7 * i)) s) := by
  have h0 := h.1.b
  have hC := la_I (kq_best h.2.1 h.2.2.1 (mI s 0 (7 * i + 1)))
  obtain ⟨s1, s2, V2, e1, e2, r2, b1, b2, t2, x1, m2, k0⟩ := both h hC (fun s1 hr => m_bestQ hr (mI s 0 (7 * i + 1)))
  have e1' : f_La_best (mI s 0 (7 * i + 1)) s = _ := (f_ck_of h0).trans e1
  clear e1 hC
  have c1 : nI (7 * i) + 1 = nI (7 * i + 1) := nI_add (7 * i) 1
  have d1 : (nI (7 * i + 1)).toNatClampNeg = 7 * i + 1 := nI_clamp (by omega)
  have v1 : vp_in (nI (7 * i + 1)) L := vp_in_nI (by omega) (by omega)
  have c7 : nI (7 * i) + 7 = nI (7 * (i + 1)) := nI_add (7 * i) 7
  have eL : (nI L).toNatClampNeg = L := nI_clamp (by omega)
  have k1 : ∀ k, mI s1 0 k = mI s 0 k := fun k => (k0 k).1
  have hs9 : mI s 0 4000 = nI L := hs
  have e3 := f_thr b2 t2
  have fin := hR s2 V2 r2 ((k0 4000).2.trans hs)
  unfold f_La_law_b1041 f_La_law_b1094 f_La_law_b1966
  simp only [k1, hs9, eL, f_ck_of h0, f_ck_of b1, f_ck_of b2, f_bd_of e1', f_bd_of e2, f_bd_of e3, if_true, c7, c1, d1, f_ck_of v1]
  revert x1
  generalize hb : (bP V && wi (mI s 0 (7 * i + 1)) 0 1) = b
  cases b with
  | false =>
    intro x1
    rw [if_neg (show ¬ tB false = 0 by decide)]
    exact fin
  | true =>
    intro x1
    rw [if_pos (show tB true = 0 from rfl), show Int32.toNatClampNeg (0 : Int32) = 0 from rfl, m2, x1 rfl]
    split
    · exact fin
    · rename_i h9
      exact absurd (lg_self _) h9

theorem lc_reached (R23 : Int32 → Sg → Option (Int32 × Sg)) (hR : ∀ s2 V2, RC V2 (i + 1) s2 → SC L s2 → okx P (R23 (nI (7 * (i + 1))) s2)) (h : RC V i s) (hs : SC L s) (hi : 7 * i + 7 ≤ L) (hL : L ≤ 3584) : okx P (f_La_law_b1122 R23 (nI (7 * i)) s) := by
  have h0 := h.1.b
  have hC := la_I (kq_reached h.2.1 h.2.2.1 (mI s 0 (7 * i + 1)))
  obtain ⟨s1, s2, V2, e1, e2, r2, b1, b2, t2, x1, m2, k0⟩ := both h hC (fun s1 hr => m_reachedQ hr (mI s 0 (7 * i + 1)))
  have e1' : f_La_reached (mI s 0 (7 * i + 1)) s = _ := (f_ck_of h0).trans e1
  clear e1 hC
  have c1 : nI (7 * i) + 1 = nI (7 * i + 1) := nI_add (7 * i) 1
  have d1 : (nI (7 * i + 1)).toNatClampNeg = 7 * i + 1 := nI_clamp (by omega)
  have v1 : vp_in (nI (7 * i + 1)) L := vp_in_nI (by omega) (by omega)
  have c7 : nI (7 * i) + 7 = nI (7 * (i + 1)) := nI_add (7 * i) 7
  have eL : (nI L).toNatClampNeg = L := nI_clamp (by omega)
  have k1 : ∀ k, mI s1 0 k = mI s 0 k := fun k => (k0 k).1
  have hs9 : mI s 0 4000 = nI L := hs
  have e3 := f_thr b2 t2
  have fin := hR s2 V2 r2 ((k0 4000).2.trans hs)
  unfold f_La_law_b1122 f_La_law_b1175 f_La_law_b1966
  simp only [k1, hs9, eL, f_ck_of h0, f_ck_of b1, f_ck_of b2, f_bd_of e1', f_bd_of e2, f_bd_of e3, if_true, c7, c1, d1, f_ck_of v1]
  revert x1
  generalize hb : bReached V (mI s 0 (7 * i + 1)) = b
  cases b with
  | false =>
    intro x1
    rw [if_neg (show ¬ tB false = 0 by decide)]
    exact fin
  | true =>
    intro x1
    rw [if_pos (show tB true = 0 from rfl), show Int32.toNatClampNeg (0 : Int32) = 0 from rfl, m2, x1 rfl]
    split
    · exact fin
    · rename_i h9
      exact absurd (lg_self _) h9

theorem lc_oneHand (R23 : Int32 → Sg → Option (Int32 × Sg)) (hR : ∀ s2 V2, RC V2 (i + 1) s2 → SC L s2 → okx P (R23 (nI (7 * (i + 1))) s2)) (h : RC V i s) (hs : SC L s) (hi : 7 * i + 7 ≤ L) (hL : L ≤ 3584) : okx P (f_La_law_b1278 R23 (nI (7 * i)) s) := by
  have h0 := h.1.b
  have hC := la_I (kq_oneHand h.2.1 h.2.2.1 (mI s 0 (7 * i + 1)) (mI s 0 (7 * i + 2)))
  obtain ⟨s1, s2, V2, e1, e2, r2, b1, b2, t2, x1, m2, k0⟩ := both h hC (fun s1 hr => m_oneHandQ hr (mI s 0 (7 * i + 1)) (mI s 0 (7 * i + 2)))
  have e1' : f_La_oneHand (mI s 0 (7 * i + 1)) (mI s 0 (7 * i + 2)) s = _ := (f_ck_of h0).trans e1
  clear e1 hC
  have c1 : nI (7 * i) + 1 = nI (7 * i + 1) := nI_add (7 * i) 1
  have d1 : (nI (7 * i + 1)).toNatClampNeg = 7 * i + 1 := nI_clamp (by omega)
  have v1 : vp_in (nI (7 * i + 1)) L := vp_in_nI (by omega) (by omega)
  have c2 : nI (7 * i) + 2 = nI (7 * i + 2) := nI_add (7 * i) 2
  have d2 : (nI (7 * i + 2)).toNatClampNeg = 7 * i + 2 := nI_clamp (by omega)
  have v2 : vp_in (nI (7 * i + 2)) L := vp_in_nI (by omega) (by omega)
  have c7 : nI (7 * i) + 7 = nI (7 * (i + 1)) := nI_add (7 * i) 7
  have eL : (nI L).toNatClampNeg = L := nI_clamp (by omega)
  have k1 : ∀ k, mI s1 0 k = mI s 0 k := fun k => (k0 k).1
  have hs9 : mI s 0 4000 = nI L := hs
  have e3 := f_thr b2 t2
  have fin := hR s2 V2 r2 ((k0 4000).2.trans hs)
  unfold f_La_law_b1278 f_La_law_b1343 f_La_law_b1966
  simp only [k1, hs9, eL, f_ck_of h0, f_ck_of b1, f_ck_of b2, f_bd_of e1', f_bd_of e2, f_bd_of e3, if_true, c7, c1, d1, f_ck_of v1, c2, d2, f_ck_of v2]
  revert x1
  generalize hb : bOneHand V (mI s 0 (7 * i + 1)) (mI s 0 (7 * i + 2)) = b
  cases b with
  | false =>
    intro x1
    rw [if_neg (show ¬ tB false = 0 by decide)]
    exact fin
  | true =>
    intro x1
    rw [if_pos (show tB true = 0 from rfl), show Int32.toNatClampNeg (0 : Int32) = 0 from rfl, m2, x1 rfl]
    split
    · exact fin
    · rename_i h9
      exact absurd (lg_self _) h9

theorem lc_written (R23 : Int32 → Sg → Option (Int32 × Sg)) (hR : ∀ s2 V2, RC V2 (i + 1) s2 → SC L s2 → okx P (R23 (nI (7 * (i + 1))) s2)) (h : RC V i s) (hs : SC L s) (hi : 7 * i + 7 ≤ L) (hL : L ≤ 3584) : okx P (f_La_law_b1346 R23 (nI (7 * i)) s) := by
  have h0 := h.1.b
  have hC := la_I (kq_written h.2.1 h.2.2.1 (mI s 0 (7 * i + 1)) (mI s 0 (7 * i + 2)))
  obtain ⟨s1, s2, V2, e1, e2, r2, b1, b2, t2, x1, m2, k0⟩ := both h hC (fun s1 hr => m_writtenQ hr (mI s 0 (7 * i + 1)) (mI s 0 (7 * i + 2)))
  have e1' : f_La_written (mI s 0 (7 * i + 1)) (mI s 0 (7 * i + 2)) s = _ := (f_ck_of h0).trans e1
  clear e1 hC
  have c1 : nI (7 * i) + 1 = nI (7 * i + 1) := nI_add (7 * i) 1
  have d1 : (nI (7 * i + 1)).toNatClampNeg = 7 * i + 1 := nI_clamp (by omega)
  have v1 : vp_in (nI (7 * i + 1)) L := vp_in_nI (by omega) (by omega)
  have c2 : nI (7 * i) + 2 = nI (7 * i + 2) := nI_add (7 * i) 2
  have d2 : (nI (7 * i + 2)).toNatClampNeg = 7 * i + 2 := nI_clamp (by omega)
  have v2 : vp_in (nI (7 * i + 2)) L := vp_in_nI (by omega) (by omega)
  have c7 : nI (7 * i) + 7 = nI (7 * (i + 1)) := nI_add (7 * i) 7
  have eL : (nI L).toNatClampNeg = L := nI_clamp (by omega)
  have k1 : ∀ k, mI s1 0 k = mI s 0 k := fun k => (k0 k).1
  have hs9 : mI s 0 4000 = nI L := hs
  have e3 := f_thr b2 t2
  have fin := hR s2 V2 r2 ((k0 4000).2.trans hs)
  unfold f_La_law_b1346 f_La_law_b1411 f_La_law_b1966
  simp only [k1, hs9, eL, f_ck_of h0, f_ck_of b1, f_ck_of b2, f_bd_of e1', f_bd_of e2, f_bd_of e3, if_true, c7, c1, d1, f_ck_of v1, c2, d2, f_ck_of v2]
  revert x1
  generalize hb : bWritten V (mI s 0 (7 * i + 1)) (mI s 0 (7 * i + 2)) = b
  cases b with
  | false =>
    intro x1
    rw [if_neg (show ¬ tB false = 0 by decide)]
    exact fin
  | true =>
    intro x1
    rw [if_pos (show tB true = 0 from rfl), show Int32.toNatClampNeg (0 : Int32) = 0 from rfl, m2, x1 rfl]
    split
    · exact fin
    · rename_i h9
      exact absurd (lg_self _) h9

theorem lc_writing (R23 : Int32 → Sg → Option (Int32 × Sg)) (hR : ∀ s2 V2, RC V2 (i + 1) s2 → SC L s2 → okx P (R23 (nI (7 * (i + 1))) s2)) (h : RC V i s) (hs : SC L s) (hi : 7 * i + 7 ≤ L) (hL : L ≤ 3584) : okx P (f_La_law_b1414 R23 (nI (7 * i)) s) := by
  have h0 := h.1.b
  have hC := la_I (kq_writing h.2.1 h.2.2.1 (mI s 0 (7 * i + 1)) (mI s 0 (7 * i + 2)))
  obtain ⟨s1, s2, V2, e1, e2, r2, b1, b2, t2, x1, m2, k0⟩ := both h hC (fun s1 hr => m_writingQ hr (mI s 0 (7 * i + 1)) (mI s 0 (7 * i + 2)))
  have e1' : f_La_writing (mI s 0 (7 * i + 1)) (mI s 0 (7 * i + 2)) s = _ := (f_ck_of h0).trans e1
  clear e1 hC
  have c1 : nI (7 * i) + 1 = nI (7 * i + 1) := nI_add (7 * i) 1
  have d1 : (nI (7 * i + 1)).toNatClampNeg = 7 * i + 1 := nI_clamp (by omega)
  have v1 : vp_in (nI (7 * i + 1)) L := vp_in_nI (by omega) (by omega)
  have c2 : nI (7 * i) + 2 = nI (7 * i + 2) := nI_add (7 * i) 2
  have d2 : (nI (7 * i + 2)).toNatClampNeg = 7 * i + 2 := nI_clamp (by omega)
  have v2 : vp_in (nI (7 * i + 2)) L := vp_in_nI (by omega) (by omega)
  have c7 : nI (7 * i) + 7 = nI (7 * (i + 1)) := nI_add (7 * i) 7
  have eL : (nI L).toNatClampNeg = L := nI_clamp (by omega)
  have k1 : ∀ k, mI s1 0 k = mI s 0 k := fun k => (k0 k).1
  have hs9 : mI s 0 4000 = nI L := hs
  have e3 := f_thr b2 t2
  have fin := hR s2 V2 r2 ((k0 4000).2.trans hs)
  unfold f_La_law_b1414 f_La_law_b1479 f_La_law_b1966
  simp only [k1, hs9, eL, f_ck_of h0, f_ck_of b1, f_ck_of b2, f_bd_of e1', f_bd_of e2, f_bd_of e3, if_true, c7, c1, d1, f_ck_of v1, c2, d2, f_ck_of v2]
  revert x1
  generalize hb : bWriting V (mI s 0 (7 * i + 1)) (mI s 0 (7 * i + 2)) = b
  cases b with
  | false =>
    intro x1
    rw [if_neg (show ¬ tB false = 0 by decide)]
    exact fin
  | true =>
    intro x1
    rw [if_pos (show tB true = 0 from rfl), show Int32.toNatClampNeg (0 : Int32) = 0 from rfl, m2, x1 rfl]
    split
    · exact fin
    · rename_i h9
      exact absurd (lg_self _) h9

theorem lc_right (R23 : Int32 → Sg → Option (Int32 × Sg)) (hR : ∀ s2 V2, RC V2 (i + 1) s2 → SC L s2 → okx P (R23 (nI (7 * (i + 1))) s2)) (h : RC V i s) (hs : SC L s) (hi : 7 * i + 7 ≤ L) (hL : L ≤ 3584) : okx P (f_La_law_b1482 R23 (nI (7 * i)) s) := by
  have h0 := h.1.b
  have hC := la_I (kq_right h.2.1 h.2.2.1 (mI s 0 (7 * i + 1)) (mI s 0 (7 * i + 2)) (mI s 0 (7 * i + 3)) (mI s 0 (7 * i + 4)))
  obtain ⟨s1, s2, V2, e1, e2, r2, b1, b2, t2, x1, m2, k0⟩ := both h hC (fun s1 hr => m_rightQ hr (mI s 0 (7 * i + 1)) (mI s 0 (7 * i + 2)) (mI s 0 (7 * i + 3)) (mI s 0 (7 * i + 4)))
  have e1' : f_La_right (mI s 0 (7 * i + 1)) (mI s 0 (7 * i + 2)) (mI s 0 (7 * i + 3)) (mI s 0 (7 * i + 4)) s = _ := (f_ck_of h0).trans e1
  clear e1 hC
  have c1 : nI (7 * i) + 1 = nI (7 * i + 1) := nI_add (7 * i) 1
  have d1 : (nI (7 * i + 1)).toNatClampNeg = 7 * i + 1 := nI_clamp (by omega)
  have v1 : vp_in (nI (7 * i + 1)) L := vp_in_nI (by omega) (by omega)
  have c2 : nI (7 * i) + 2 = nI (7 * i + 2) := nI_add (7 * i) 2
  have d2 : (nI (7 * i + 2)).toNatClampNeg = 7 * i + 2 := nI_clamp (by omega)
  have v2 : vp_in (nI (7 * i + 2)) L := vp_in_nI (by omega) (by omega)
  have c3 : nI (7 * i) + 3 = nI (7 * i + 3) := nI_add (7 * i) 3
  have d3 : (nI (7 * i + 3)).toNatClampNeg = 7 * i + 3 := nI_clamp (by omega)
  have v3 : vp_in (nI (7 * i + 3)) L := vp_in_nI (by omega) (by omega)
  have c4 : nI (7 * i) + 4 = nI (7 * i + 4) := nI_add (7 * i) 4
  have d4 : (nI (7 * i + 4)).toNatClampNeg = 7 * i + 4 := nI_clamp (by omega)
  have v4 : vp_in (nI (7 * i + 4)) L := vp_in_nI (by omega) (by omega)
  have c7 : nI (7 * i) + 7 = nI (7 * (i + 1)) := nI_add (7 * i) 7
  have eL : (nI L).toNatClampNeg = L := nI_clamp (by omega)
  have k1 : ∀ k, mI s1 0 k = mI s 0 k := fun k => (k0 k).1
  have hs9 : mI s 0 4000 = nI L := hs
  have e3 := f_thr b2 t2
  have fin := hR s2 V2 r2 ((k0 4000).2.trans hs)
  unfold f_La_law_b1482 f_La_law_b1571 f_La_law_b1966
  simp only [k1, hs9, eL, f_ck_of h0, f_ck_of b1, f_ck_of b2, f_bd_of e1', f_bd_of e2, f_bd_of e3, if_true, c7, c1, d1, f_ck_of v1, c2, d2, f_ck_of v2, c3, d3, f_ck_of v3, c4, d4, f_ck_of v4]
  revert x1
  generalize hb : bRight V (mI s 0 (7 * i + 1)) (mI s 0 (7 * i + 2)) (mI s 0 (7 * i + 3)) (mI s 0 (7 * i + 4)) = b
  cases b with
  | false =>
    intro x1
    rw [if_neg (show ¬ tB false = 0 by decide)]
    exact fin
  | true =>
    intro x1
    rw [if_pos (show tB true = 0 from rfl), show Int32.toNatClampNeg (0 : Int32) = 0 from rfl, m2, x1 rfl]
    split
    · exact fin
    · rename_i h9
      exact absurd (lg_self _) h9

theorem lc_rightPrice (R23 : Int32 → Sg → Option (Int32 × Sg)) (hR : ∀ s2 V2, RC V2 (i + 1) s2 → SC L s2 → okx P (R23 (nI (7 * (i + 1))) s2)) (h : RC V i s) (hs : SC L s) (hi : 7 * i + 7 ≤ L) (hL : L ≤ 3584) : okx P (f_La_law_b1574 R23 (nI (7 * i)) s) := by
  have h0 := h.1.b
  have hC := la_I (kq_price h.2.1 h.2.2.1 (mI s 0 (7 * i + 1)) (mI s 0 (7 * i + 2)) (mI s 0 (7 * i + 3)) (mI s 0 (7 * i + 4)))
  obtain ⟨s1, s2, V2, e1, e2, r2, b1, b2, t2, x1, m2, k0⟩ := both h hC (fun s1 hr => m_priceQ hr (mI s 0 (7 * i + 1)) (mI s 0 (7 * i + 2)) (mI s 0 (7 * i + 3)) (mI s 0 (7 * i + 4)))
  have e1' : f_La_rightPrice (mI s 0 (7 * i + 1)) (mI s 0 (7 * i + 2)) (mI s 0 (7 * i + 3)) (mI s 0 (7 * i + 4)) s = _ := (f_ck_of h0).trans e1
  clear e1 hC
  have c1 : nI (7 * i) + 1 = nI (7 * i + 1) := nI_add (7 * i) 1
  have d1 : (nI (7 * i + 1)).toNatClampNeg = 7 * i + 1 := nI_clamp (by omega)
  have v1 : vp_in (nI (7 * i + 1)) L := vp_in_nI (by omega) (by omega)
  have c2 : nI (7 * i) + 2 = nI (7 * i + 2) := nI_add (7 * i) 2
  have d2 : (nI (7 * i + 2)).toNatClampNeg = 7 * i + 2 := nI_clamp (by omega)
  have v2 : vp_in (nI (7 * i + 2)) L := vp_in_nI (by omega) (by omega)
  have c3 : nI (7 * i) + 3 = nI (7 * i + 3) := nI_add (7 * i) 3
  have d3 : (nI (7 * i + 3)).toNatClampNeg = 7 * i + 3 := nI_clamp (by omega)
  have v3 : vp_in (nI (7 * i + 3)) L := vp_in_nI (by omega) (by omega)
  have c4 : nI (7 * i) + 4 = nI (7 * i + 4) := nI_add (7 * i) 4
  have d4 : (nI (7 * i + 4)).toNatClampNeg = 7 * i + 4 := nI_clamp (by omega)
  have v4 : vp_in (nI (7 * i + 4)) L := vp_in_nI (by omega) (by omega)
  have c7 : nI (7 * i) + 7 = nI (7 * (i + 1)) := nI_add (7 * i) 7
  have eL : (nI L).toNatClampNeg = L := nI_clamp (by omega)
  have k1 : ∀ k, mI s1 0 k = mI s 0 k := fun k => (k0 k).1
  have hs9 : mI s 0 4000 = nI L := hs
  have e3 := f_thr b2 t2
  have fin := hR s2 V2 r2 ((k0 4000).2.trans hs)
  unfold f_La_law_b1574 f_La_law_b1663 f_La_law_b1966
  simp only [k1, hs9, eL, f_ck_of h0, f_ck_of b1, f_ck_of b2, f_bd_of e1', f_bd_of e2, f_bd_of e3, if_true, c7, c1, d1, f_ck_of v1, c2, d2, f_ck_of v2, c3, d3, f_ck_of v3, c4, d4, f_ck_of v4]
  revert x1
  generalize hb : bPrice V (mI s 0 (7 * i + 1)) (mI s 0 (7 * i + 2)) (mI s 0 (7 * i + 3)) (mI s 0 (7 * i + 4)) = b
  cases b with
  | false =>
    intro x1
    rw [if_neg (show ¬ tB false = 0 by decide)]
    exact fin
  | true =>
    intro x1
    rw [if_pos (show tB true = 0 from rfl), show Int32.toNatClampNeg (0 : Int32) = 0 from rfl, m2, x1 rfl]
    split
    · exact fin
    · rename_i h9
      exact absurd (lg_self _) h9

theorem lc_lender (R23 : Int32 → Sg → Option (Int32 × Sg)) (hR : ∀ s2 V2, RC V2 (i + 1) s2 → SC L s2 → okx P (R23 (nI (7 * (i + 1))) s2)) (h : RC V i s) (hs : SC L s) (hi : 7 * i + 7 ≤ L) (hL : L ≤ 3584) : okx P (f_La_law_b1666 R23 (nI (7 * i)) s) := by
  have h0 := h.1.b
  have hC := la_I (kq_lender h.2.1 h.2.2.1 (mI s 0 (7 * i + 1)) (mI s 0 (7 * i + 2)) (mI s 0 (7 * i + 3)) (mI s 0 (7 * i + 4)))
  obtain ⟨s1, s2, V2, e1, e2, r2, b1, b2, t2, x1, m2, k0⟩ := both h hC (fun s1 hr => m_lenderQ hr (mI s 0 (7 * i + 1)) (mI s 0 (7 * i + 2)) (mI s 0 (7 * i + 3)) (mI s 0 (7 * i + 4)))
  have e1' : f_La_lender (mI s 0 (7 * i + 1)) (mI s 0 (7 * i + 2)) (mI s 0 (7 * i + 3)) (mI s 0 (7 * i + 4)) s = _ := (f_ck_of h0).trans e1
  clear e1 hC
  have c1 : nI (7 * i) + 1 = nI (7 * i + 1) := nI_add (7 * i) 1
  have d1 : (nI (7 * i + 1)).toNatClampNeg = 7 * i + 1 := nI_clamp (by omega)
  have v1 : vp_in (nI (7 * i + 1)) L := vp_in_nI (by omega) (by omega)
  have c2 : nI (7 * i) + 2 = nI (7 * i + 2) := nI_add (7 * i) 2
  have d2 : (nI (7 * i + 2)).toNatClampNeg = 7 * i + 2 := nI_clamp (by omega)
  have v2 : vp_in (nI (7 * i + 2)) L := vp_in_nI (by omega) (by omega)
  have c3 : nI (7 * i) + 3 = nI (7 * i + 3) := nI_add (7 * i) 3
  have d3 : (nI (7 * i + 3)).toNatClampNeg = 7 * i + 3 := nI_clamp (by omega)
  have v3 : vp_in (nI (7 * i + 3)) L := vp_in_nI (by omega) (by omega)
  have c4 : nI (7 * i) + 4 = nI (7 * i + 4) := nI_add (7 * i) 4
  have d4 : (nI (7 * i + 4)).toNatClampNeg = 7 * i + 4 := nI_clamp (by omega)
  have v4 : vp_in (nI (7 * i + 4)) L := vp_in_nI (by omega) (by omega)
  have c7 : nI (7 * i) + 7 = nI (7 * (i + 1)) := nI_add (7 * i) 7
  have eL : (nI L).toNatClampNeg = L := nI_clamp (by omega)
  have k1 : ∀ k, mI s1 0 k = mI s 0 k := fun k => (k0 k).1
  have hs9 : mI s 0 4000 = nI L := hs
  have e3 := f_thr b2 t2
  have fin := hR s2 V2 r2 ((k0 4000).2.trans hs)
  unfold f_La_law_b1666 f_La_law_b1755 f_La_law_b1966
  simp only [k1, hs9, eL, f_ck_of h0, f_ck_of b1, f_ck_of b2, f_bd_of e1', f_bd_of e2, f_bd_of e3, if_true, c7, c1, d1, f_ck_of v1, c2, d2, f_ck_of v2, c3, d3, f_ck_of v3, c4, d4, f_ck_of v4]
  revert x1
  generalize hb : bLend V (mI s 0 (7 * i + 1)) (mI s 0 (7 * i + 2)) (mI s 0 (7 * i + 3)) (mI s 0 (7 * i + 4)) = b
  cases b with
  | false =>
    intro x1
    rw [if_neg (show ¬ tB false = 0 by decide)]
    exact fin
  | true =>
    intro x1
    rw [if_pos (show tB true = 0 from rfl), show Int32.toNatClampNeg (0 : Int32) = 0 from rfl, m2, x1 rfl]
    split
    · exact fin
    · rename_i h9
      exact absurd (lg_self _) h9

theorem lc_leaving (R23 : Int32 → Sg → Option (Int32 × Sg)) (hR : ∀ s2 V2, RC V2 (i + 1) s2 → SC L s2 → okx P (R23 (nI (7 * (i + 1))) s2)) (h : RC V i s) (hs : SC L s) (hi : 7 * i + 7 ≤ L) (hL : L ≤ 3584) : okx P (f_La_law_b1771 R23 (nI (7 * i)) s) := by
  have h0 := h.1.b
  have hC := la_I (kq_leaving h.2.1 h.2.2.1 (mI s 0 (7 * i + 1)) (mI s 0 (7 * i + 2)))
  obtain ⟨s1, s2, V2, e1, e2, r2, b1, b2, t2, x1, m2, k0⟩ := both h hC (fun s1 hr => m_leavingQ hr (mI s 0 (7 * i + 1)) (mI s 0 (7 * i + 2)))
  have e1' : f_La_leaving (mI s 0 (7 * i + 1)) (mI s 0 (7 * i + 2)) s = _ := (f_ck_of h0).trans e1
  clear e1 hC
  have c1 : nI (7 * i) + 1 = nI (7 * i + 1) := nI_add (7 * i) 1
  have d1 : (nI (7 * i + 1)).toNatClampNeg = 7 * i + 1 := nI_clamp (by omega)
  have v1 : vp_in (nI (7 * i + 1)) L := vp_in_nI (by omega) (by omega)
  have c2 : nI (7 * i) + 2 = nI (7 * i + 2) := nI_add (7 * i) 2
  have d2 : (nI (7 * i + 2)).toNatClampNeg = 7 * i + 2 := nI_clamp (by omega)
  have v2 : vp_in (nI (7 * i + 2)) L := vp_in_nI (by omega) (by omega)
  have c7 : nI (7 * i) + 7 = nI (7 * (i + 1)) := nI_add (7 * i) 7
  have eL : (nI L).toNatClampNeg = L := nI_clamp (by omega)
  have k1 : ∀ k, mI s1 0 k = mI s 0 k := fun k => (k0 k).1
  have hs9 : mI s 0 4000 = nI L := hs
  have e3 := f_thr b2 t2
  have fin := hR s2 V2 r2 ((k0 4000).2.trans hs)
  unfold f_La_law_b1771 f_La_law_b1836 f_La_law_b1966
  simp only [k1, hs9, eL, f_ck_of h0, f_ck_of b1, f_ck_of b2, f_bd_of e1', f_bd_of e2, f_bd_of e3, if_true, c7, c1, d1, f_ck_of v1, c2, d2, f_ck_of v2]
  revert x1
  generalize hb : bPP V (mI s 0 (7 * i + 1)) (mI s 0 (7 * i + 2)) = b
  cases b with
  | false =>
    intro x1
    rw [if_neg (show ¬ tB false = 0 by decide)]
    exact fin
  | true =>
    intro x1
    rw [if_pos (show tB true = 0 from rfl), show Int32.toNatClampNeg (0 : Int32) = 0 from rfl, m2, x1 rfl]
    split
    · exact fin
    · rename_i h9
      exact absurd (lg_self _) h9
end
