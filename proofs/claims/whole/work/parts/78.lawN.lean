/-! the law's calls, one by one -/
section
def SC (L : Nat) (s : Sg) : Prop := mI s 0 4000 = nI L
theorem f_thr {s : Sg} {t : Int32} (hb : zl_B s) (h : mI s 46 0 = t) : f_Mo_thrown s = some (t, s) := by
  unfold f_Mo_thrown
  rw [f_ck_of hb, h]
theorem lg_self (x : Int64) : lg_cmp x x = 0 := (lg_cmp_eq _ _).mpr rfl
variable {V : Vw} {s : Sg} {i L : Nat} {P : Int32 → Sg → Prop}

theorem lc_cost (R23 : Int32 → Sg → Option (Int32 × Sg)) (hR : ∀ s2 V2, RC V2 (i + 1) s2 → SC L s2 → okx P (R23 (nI (7 * (i + 1))) s2)) (h : RC V i s) (hs : SC L s) (hi : 7 * i + 7 ≤ L) (hL : L ≤ 3584) : okx P (f_La_law_b356 R23 (nI (7 * i)) s) := by
  have hA := h.2.2.2.1
  obtain ⟨s1, s2, V2, e1, e2, r2, b1, b2, t2, -, -, k0⟩ := both h (kq_cost h.2.1 h.2.2.1 (mI s 0 (7 * i + 1)) (mI s 0 (7 * i + 2))).c (fun s1 hr => m_costQ hr (mI s 0 (7 * i + 1)) (mI s 0 (7 * i + 2)))
  have c1 : nI (7 * i) + 1 = nI (7 * i + 1) := nI_add (7 * i) 1
  have d1 : (nI (7 * i + 1)).toNatClampNeg = 7 * i + 1 := nI_clamp (by omega)
  have v1 : vp_in (nI (7 * i + 1)) L := vp_in_nI (by omega) (by omega)
  have c2 : nI (7 * i) + 2 = nI (7 * i + 2) := nI_add (7 * i) 2
  have d2 : (nI (7 * i + 2)).toNatClampNeg = 7 * i + 2 := nI_clamp (by omega)
  have v2 : vp_in (nI (7 * i + 2)) L := vp_in_nI (by omega) (by omega)
  have c7 : nI (7 * i) + 7 = nI (7 * (i + 1)) := nI_add (7 * i) 7
  have eL : (nI L).toNatClampNeg = L := nI_clamp (by omega)
  have k1 : ∀ k, mI s1 0 k = mI s 0 k := fun k => (k0 k).1
  have hs9 : mI s 0 4000 = nI L := hs
  have h0 := h.1.b
  unfold f_La_law_b356 f_La_law_b1966
  simp only [k1, hs9, eL, f_ck_of h0, f_ck_of b1, f_bd_of e1, f_bd_of e2, if_true, c7, c1, d1, f_ck_of v1, c2, d2, f_ck_of v2]
  exact hR s2 V2 r2 ((k0 4000).2.trans hs)

theorem lc_owner (R23 : Int32 → Sg → Option (Int32 × Sg)) (hR : ∀ s2 V2, RC V2 (i + 1) s2 → SC L s2 → okx P (R23 (nI (7 * (i + 1))) s2)) (h : RC V i s) (hs : SC L s) (hi : 7 * i + 7 ≤ L) (hL : L ≤ 3584) : okx P (f_La_law_b522 R23 (nI (7 * i)) s) := by
  have hA := h.2.2.2.1
  obtain ⟨s1, s2, V2, e1, e2, r2, b1, b2, t2, -, -, k0⟩ := both h (kq_owner h.2.1 h.2.2.1 (mI s 0 (7 * i + 1)) (mI s 0 (7 * i + 2))).c (fun s1 hr => m_ownerQ hr (mI s 0 (7 * i + 1)) (mI s 0 (7 * i + 2)))
  have c1 : nI (7 * i) + 1 = nI (7 * i + 1) := nI_add (7 * i) 1
  have d1 : (nI (7 * i + 1)).toNatClampNeg = 7 * i + 1 := nI_clamp (by omega)
  have v1 : vp_in (nI (7 * i + 1)) L := vp_in_nI (by omega) (by omega)
  have c2 : nI (7 * i) + 2 = nI (7 * i + 2) := nI_add (7 * i) 2
  have d2 : (nI (7 * i + 2)).toNatClampNeg = 7 * i + 2 := nI_clamp (by omega)
  have v2 : vp_in (nI (7 * i + 2)) L := vp_in_nI (by omega) (by omega)
  have c7 : nI (7 * i) + 7 = nI (7 * (i + 1)) := nI_add (7 * i) 7
  have eL : (nI L).toNatClampNeg = L := nI_clamp (by omega)
  have k1 : ∀ k, mI s1 0 k = mI s 0 k := fun k => (k0 k).1
  have hs9 : mI s 0 4000 = nI L := hs
  have h0 := h.1.b
  unfold f_La_law_b522 f_La_law_b1966
  simp only [k1, hs9, eL, f_ck_of h0, f_ck_of b1, f_bd_of e1, f_bd_of e2, if_true, c7, c1, d1, f_ck_of v1, c2, d2, f_ck_of v2]
  exact hR s2 V2 r2 ((k0 4000).2.trans hs)

theorem lc_has (R23 : Int32 → Sg → Option (Int32 × Sg)) (hR : ∀ s2 V2, RC V2 (i + 1) s2 → SC L s2 → okx P (R23 (nI (7 * (i + 1))) s2)) (h : RC V i s) (hs : SC L s) (hi : 7 * i + 7 ≤ L) (hL : L ≤ 3584) : okx P (f_La_law_b633 R23 (nI (7 * i)) s) := by
  have hA := h.2.2.2.1
  obtain ⟨s1, s2, V2, e1, e2, r2, b1, b2, t2, -, -, k0⟩ := both h (kq_has h.2.1 h.2.2.1 (mI s 0 (7 * i + 1))).c (fun s1 hr => m_hasQ hr (mI s 0 (7 * i + 1)))
  have c1 : nI (7 * i) + 1 = nI (7 * i + 1) := nI_add (7 * i) 1
  have d1 : (nI (7 * i + 1)).toNatClampNeg = 7 * i + 1 := nI_clamp (by omega)
  have v1 : vp_in (nI (7 * i + 1)) L := vp_in_nI (by omega) (by omega)
  have c7 : nI (7 * i) + 7 = nI (7 * (i + 1)) := nI_add (7 * i) 7
  have eL : (nI L).toNatClampNeg = L := nI_clamp (by omega)
  have k1 : ∀ k, mI s1 0 k = mI s 0 k := fun k => (k0 k).1
  have hs9 : mI s 0 4000 = nI L := hs
  have h0 := h.1.b
  unfold f_La_law_b633 f_La_law_b1966
  simp only [k1, hs9, eL, f_ck_of h0, f_ck_of b1, f_bd_of e1, f_bd_of e2, if_true, c7, c1, d1, f_ck_of v1]
  exact hR s2 V2 r2 ((k0 4000).2.trans hs)

theorem lc_would (R23 : Int32 → Sg → Option (Int32 × Sg)) (hR : ∀ s2 V2, RC V2 (i + 1) s2 → SC L s2 → okx P (R23 (nI (7 * (i + 1))) s2)) (h : RC V i s) (hs : SC L s) (hi : 7 * i + 7 ≤ L) (hL : L ≤ 3584) : okx P (f_La_law_b842 R23 (nI (7 * i)) s) := by
  have hA := h.2.2.2.1
  obtain ⟨s1, s2, V2, e1, e2, r2, b1, b2, t2, -, -, k0⟩ := both h (kq_would h.2.1 h.2.2.1 (mI s 0 (7 * i + 1)) (mI s 0 (7 * i + 2))).c (fun s1 hr => m_wouldQ hr (mI s 0 (7 * i + 1)) (mI s 0 (7 * i + 2)))
  have c1 : nI (7 * i) + 1 = nI (7 * i + 1) := nI_add (7 * i) 1
  have d1 : (nI (7 * i + 1)).toNatClampNeg = 7 * i + 1 := nI_clamp (by omega)
  have v1 : vp_in (nI (7 * i + 1)) L := vp_in_nI (by omega) (by omega)
  have c2 : nI (7 * i) + 2 = nI (7 * i + 2) := nI_add (7 * i) 2
  have d2 : (nI (7 * i + 2)).toNatClampNeg = 7 * i + 2 := nI_clamp (by omega)
  have v2 : vp_in (nI (7 * i + 2)) L := vp_in_nI (by omega) (by omega)
  have c7 : nI (7 * i) + 7 = nI (7 * (i + 1)) := nI_add (7 * i) 7
  have eL : (nI L).toNatClampNeg = L := nI_clamp (by omega)
  have k1 : ∀ k, mI s1 0 k = mI s 0 k := fun k => (k0 k).1
  have hs9 : mI s 0 4000 = nI L := hs
  have h0 := h.1.b
  unfold f_La_law_b842 f_La_law_b1966
  simp only [k1, hs9, eL, f_ck_of h0, f_ck_of b1, f_bd_of e1, f_bd_of e2, if_true, c7, c1, d1, f_ck_of v1, c2, d2, f_ck_of v2]
  exact hR s2 V2 r2 ((k0 4000).2.trans hs)

theorem lc_isRest (R23 : Int32 → Sg → Option (Int32 × Sg)) (hR : ∀ s2 V2, RC V2 (i + 1) s2 → SC L s2 → okx P (R23 (nI (7 * (i + 1))) s2)) (h : RC V i s) (hs : SC L s) (hi : 7 * i + 7 ≤ L) (hL : L ≤ 3584) : okx P (f_La_law_b879 R23 (nI (7 * i)) s) := by
  have hA := h.2.2.2.1
  obtain ⟨s1, s2, V2, e1, e2, r2, b1, b2, t2, -, -, k0⟩ := both h (kq_isRest h.2.1 h.2.2.1 (mI s 0 (7 * i + 1))).c (fun s1 hr => m_isRestQ hr (mI s 0 (7 * i + 1)))
  have c1 : nI (7 * i) + 1 = nI (7 * i + 1) := nI_add (7 * i) 1
  have d1 : (nI (7 * i + 1)).toNatClampNeg = 7 * i + 1 := nI_clamp (by omega)
  have v1 : vp_in (nI (7 * i + 1)) L := vp_in_nI (by omega) (by omega)
  have c7 : nI (7 * i) + 7 = nI (7 * (i + 1)) := nI_add (7 * i) 7
  have eL : (nI L).toNatClampNeg = L := nI_clamp (by omega)
  have k1 : ∀ k, mI s1 0 k = mI s 0 k := fun k => (k0 k).1
  have hs9 : mI s 0 4000 = nI L := hs
  have h0 := h.1.b
  unfold f_La_law_b879 f_La_law_b1966
  simp only [k1, hs9, eL, f_ck_of h0, f_ck_of b1, f_bd_of e1, f_bd_of e2, if_true, c7, c1, d1, f_ck_of v1]
  exact hR s2 V2 r2 ((k0 4000).2.trans hs)

theorem lc_rests (R23 : Int32 → Sg → Option (Int32 × Sg)) (hR : ∀ s2 V2, RC V2 (i + 1) s2 → SC L s2 → okx P (R23 (nI (7 * (i + 1))) s2)) (h : RC V i s) (hs : SC L s) (hi : 7 * i + 7 ≤ L) (hL : L ≤ 3584) : okx P (f_La_law_b960 R23 (nI (7 * i)) s) := by
  have hA := h.2.2.2.1
  obtain ⟨s1, s2, V2, e1, e2, r2, b1, b2, t2, -, -, k0⟩ := both h (kq_rests h.2.1 h.2.2.1 (mI s 0 (7 * i + 1))).c (fun s1 hr => m_restsQ hr (mI s 0 (7 * i + 1)))
  have c1 : nI (7 * i) + 1 = nI (7 * i + 1) := nI_add (7 * i) 1
  have d1 : (nI (7 * i + 1)).toNatClampNeg = 7 * i + 1 := nI_clamp (by omega)
  have v1 : vp_in (nI (7 * i + 1)) L := vp_in_nI (by omega) (by omega)
  have c7 : nI (7 * i) + 7 = nI (7 * (i + 1)) := nI_add (7 * i) 7
  have eL : (nI L).toNatClampNeg = L := nI_clamp (by omega)
  have k1 : ∀ k, mI s1 0 k = mI s 0 k := fun k => (k0 k).1
  have hs9 : mI s 0 4000 = nI L := hs
  have h0 := h.1.b
  unfold f_La_law_b960 f_La_law_b1966
  simp only [k1, hs9, eL, f_ck_of h0, f_ck_of b1, f_bd_of e1, f_bd_of e2, if_true, c7, c1, d1, f_ck_of v1]
  exact hR s2 V2 r2 ((k0 4000).2.trans hs)

theorem lc_lost (R23 : Int32 → Sg → Option (Int32 × Sg)) (hR : ∀ s2 V2, RC V2 (i + 1) s2 → SC L s2 → okx P (R23 (nI (7 * (i + 1))) s2)) (h : RC V i s) (hs : SC L s) (hi : 7 * i + 7 ≤ L) (hL : L ≤ 3584) : okx P (f_La_law_b1097 R23 (nI (7 * i)) s) := by
  have hA := h.2.2.2.1
  obtain ⟨s1, s2, V2, e1, e2, r2, b1, b2, t2, -, -, k0⟩ := both h (kq_lost h.2.1 h.2.2.1 (mI s 0 (7 * i + 1))).c (fun s1 hr => m_lostQ hr (mI s 0 (7 * i + 1)))
  have c1 : nI (7 * i) + 1 = nI (7 * i + 1) := nI_add (7 * i) 1
  have d1 : (nI (7 * i + 1)).toNatClampNeg = 7 * i + 1 := nI_clamp (by omega)
  have v1 : vp_in (nI (7 * i + 1)) L := vp_in_nI (by omega) (by omega)
  have c7 : nI (7 * i) + 7 = nI (7 * (i + 1)) := nI_add (7 * i) 7
  have eL : (nI L).toNatClampNeg = L := nI_clamp (by omega)
  have k1 : ∀ k, mI s1 0 k = mI s 0 k := fun k => (k0 k).1
  have hs9 : mI s 0 4000 = nI L := hs
  have h0 := h.1.b
  unfold f_La_law_b1097 f_La_law_b1966
  simp only [k1, hs9, eL, f_ck_of h0, f_ck_of b1, f_bd_of e1, f_bd_of e2, if_true, c7, c1, d1, f_ck_of v1]
  exact hR s2 V2 r2 ((k0 4000).2.trans hs)

theorem lc_first (R23 : Int32 → Sg → Option (Int32 × Sg)) (hR : ∀ s2 V2, RC V2 (i + 1) s2 → SC L s2 → okx P (R23 (nI (7 * (i + 1))) s2)) (h : RC V i s) (hs : SC L s) (hi : 7 * i + 7 ≤ L) (hL : L ≤ 3584) : okx P (f_La_law_b1178 R23 (nI (7 * i)) s) := by
  have hA := h.2.2.2.1
  obtain ⟨s1, s2, V2, e1, e2, r2, b1, b2, t2, -, -, k0⟩ := both h (kq_first h.2.1 h.2.2.1 (mI s 0 (7 * i + 1))).c (fun s1 hr => m_firstQ hr (mI s 0 (7 * i + 1)))
  have c1 : nI (7 * i) + 1 = nI (7 * i + 1) := nI_add (7 * i) 1
  have d1 : (nI (7 * i + 1)).toNatClampNeg = 7 * i + 1 := nI_clamp (by omega)
  have v1 : vp_in (nI (7 * i + 1)) L := vp_in_nI (by omega) (by omega)
  have c7 : nI (7 * i) + 7 = nI (7 * (i + 1)) := nI_add (7 * i) 7
  have eL : (nI L).toNatClampNeg = L := nI_clamp (by omega)
  have k1 : ∀ k, mI s1 0 k = mI s 0 k := fun k => (k0 k).1
  have hs9 : mI s 0 4000 = nI L := hs
  have h0 := h.1.b
  unfold f_La_law_b1178 f_La_law_b1966
  simp only [k1, hs9, eL, f_ck_of h0, f_ck_of b1, f_bd_of e1, f_bd_of e2, if_true, c7, c1, d1, f_ck_of v1]
  exact hR s2 V2 r2 ((k0 4000).2.trans hs)

theorem lc_gap (R23 : Int32 → Sg → Option (Int32 × Sg)) (hR : ∀ s2 V2, RC V2 (i + 1) s2 → SC L s2 → okx P (R23 (nI (7 * (i + 1))) s2)) (h : RC V i s) (hs : SC L s) (hi : 7 * i + 7 ≤ L) (hL : L ≤ 3584) : okx P (f_La_law_b1203 R23 (nI (7 * i)) s) := by
  have hA := h.2.2.2.1
  obtain ⟨s1, s2, V2, e1, e2, r2, b1, b2, t2, -, -, k0⟩ := both h (kq_gap h.2.1 h.2.2.1 ).c (fun s1 hr => m_gapQ hr )
  have c7 : nI (7 * i) + 7 = nI (7 * (i + 1)) := nI_add (7 * i) 7
  have eL : (nI L).toNatClampNeg = L := nI_clamp (by omega)
  have k1 : ∀ k, mI s1 0 k = mI s 0 k := fun k => (k0 k).1
  have hs9 : mI s 0 4000 = nI L := hs
  have h0 := h.1.b
  unfold f_La_law_b1203 f_La_law_b1966
  simp only [k1, hs9, eL, f_ck_of h0, f_ck_of b1, f_bd_of e1, f_bd_of e2, if_true, c7]
  exact hR s2 V2 r2 ((k0 4000).2.trans hs)

theorem lc_joint (R23 : Int32 → Sg → Option (Int32 × Sg)) (hR : ∀ s2 V2, RC V2 (i + 1) s2 → SC L s2 → okx P (R23 (nI (7 * (i + 1))) s2)) (h : RC V i s) (hs : SC L s) (hi : 7 * i + 7 ≤ L) (hL : L ≤ 3584) : okx P (f_La_law_b1216 R23 (nI (7 * i)) s) := by
  have hA := h.2.2.2.1
  obtain ⟨s1, s2, V2, e1, e2, r2, b1, b2, t2, -, -, k0⟩ := both h (kq_joint h.2.1 h.2.2.1 (mI s 0 (7 * i + 1))).c (fun s1 hr => m_jointQ hr (mI s 0 (7 * i + 1)))
  have c1 : nI (7 * i) + 1 = nI (7 * i + 1) := nI_add (7 * i) 1
  have d1 : (nI (7 * i + 1)).toNatClampNeg = 7 * i + 1 := nI_clamp (by omega)
  have v1 : vp_in (nI (7 * i + 1)) L := vp_in_nI (by omega) (by omega)
  have c7 : nI (7 * i) + 7 = nI (7 * (i + 1)) := nI_add (7 * i) 7
  have eL : (nI L).toNatClampNeg = L := nI_clamp (by omega)
  have k1 : ∀ k, mI s1 0 k = mI s 0 k := fun k => (k0 k).1
  have hs9 : mI s 0 4000 = nI L := hs
  have h0 := h.1.b
  unfold f_La_law_b1216 f_La_law_b1966
  simp only [k1, hs9, eL, f_ck_of h0, f_ck_of b1, f_bd_of e1, f_bd_of e2, if_true, c7, c1, d1, f_ck_of v1]
  exact hR s2 V2 r2 ((k0 4000).2.trans hs)

theorem lc_apart (R23 : Int32 → Sg → Option (Int32 × Sg)) (hR : ∀ s2 V2, RC V2 (i + 1) s2 → SC L s2 → okx P (R23 (nI (7 * (i + 1))) s2)) (h : RC V i s) (hs : SC L s) (hi : 7 * i + 7 ≤ L) (hL : L ≤ 3584) : okx P (f_La_law_b1241 R23 (nI (7 * i)) s) := by
  have hA := h.2.2.2.1
  obtain ⟨s1, s2, V2, e1, e2, r2, b1, b2, t2, -, -, k0⟩ := both h (kq_apart h.2.1 h.2.2.1 (mI s 0 (7 * i + 1)) (mI s 0 (7 * i + 2))).c (fun s1 hr => m_apartQ hr (mI s 0 (7 * i + 1)) (mI s 0 (7 * i + 2)))
  have c1 : nI (7 * i) + 1 = nI (7 * i + 1) := nI_add (7 * i) 1
  have d1 : (nI (7 * i + 1)).toNatClampNeg = 7 * i + 1 := nI_clamp (by omega)
  have v1 : vp_in (nI (7 * i + 1)) L := vp_in_nI (by omega) (by omega)
  have c2 : nI (7 * i) + 2 = nI (7 * i + 2) := nI_add (7 * i) 2
  have d2 : (nI (7 * i + 2)).toNatClampNeg = 7 * i + 2 := nI_clamp (by omega)
  have v2 : vp_in (nI (7 * i + 2)) L := vp_in_nI (by omega) (by omega)
  have c7 : nI (7 * i) + 7 = nI (7 * (i + 1)) := nI_add (7 * i) 7
  have eL : (nI L).toNatClampNeg = L := nI_clamp (by omega)
  have k1 : ∀ k, mI s1 0 k = mI s 0 k := fun k => (k0 k).1
  have hs9 : mI s 0 4000 = nI L := hs
  have h0 := h.1.b
  unfold f_La_law_b1241 f_La_law_b1966
  simp only [k1, hs9, eL, f_ck_of h0, f_ck_of b1, f_bd_of e1, f_bd_of e2, if_true, c7, c1, d1, f_ck_of v1, c2, d2, f_ck_of v2]
  exact hR s2 V2 r2 ((k0 4000).2.trans hs)

theorem lc_hands (R23 : Int32 → Sg → Option (Int32 × Sg)) (hR : ∀ s2 V2, RC V2 (i + 1) s2 → SC L s2 → okx P (R23 (nI (7 * (i + 1))) s2)) (h : RC V i s) (hs : SC L s) (hi : 7 * i + 7 ≤ L) (hL : L ≤ 3584) : okx P (f_La_law_b1758 R23 (nI (7 * i)) s) := by
  have hA := h.2.2.2.1
  obtain ⟨s1, s2, V2, e1, e2, r2, b1, b2, t2, -, -, k0⟩ := both h (kq_hands h.2.1 h.2.2.1 ).c (fun s1 hr => m_handsQ hr )
  have c7 : nI (7 * i) + 7 = nI (7 * (i + 1)) := nI_add (7 * i) 7
  have eL : (nI L).toNatClampNeg = L := nI_clamp (by omega)
  have k1 : ∀ k, mI s1 0 k = mI s 0 k := fun k => (k0 k).1
  have hs9 : mI s 0 4000 = nI L := hs
  have h0 := h.1.b
  unfold f_La_law_b1758 f_La_law_b1966
  simp only [k1, hs9, eL, f_ck_of h0, f_ck_of b1, f_bd_of e1, f_bd_of e2, if_true, c7]
  exact hR s2 V2 r2 ((k0 4000).2.trans hs)

theorem lc_own (R23 : Int32 → Sg → Option (Int32 × Sg)) (hR : ∀ s2 V2, RC V2 (i + 1) s2 → SC L s2 → okx P (R23 (nI (7 * (i + 1))) s2)) (h : RC V i s) (hs : SC L s) (hi : 7 * i + 7 ≤ L) (hL : L ≤ 3584) : okx P (f_La_law_b473 R23 (nI (7 * i)) s) := by
  have hW : WV (vOwn V (mI s 0 (7 * i + 1)) (mI s 0 (7 * i + 2)) (mI s 0 (7 * i + 3))) := by
    obtain ⟨_, _, hr, _⟩ := m_ownQ h.1 (mI s 0 (7 * i + 1)) (mI s 0 (7 * i + 2)) (mI s 0 (7 * i + 3))
    exact hr.w
  have hsm : ∀ b j, ¬ (69 ≤ b ∧ b ≤ 73) → ¬ (b = 46 ∧ 45 ≤ j ∧ j ≤ 47) → vOwn V (mI s 0 (7 * i + 1)) (mI s 0 (7 * i + 2)) (mI s 0 (7 * i + 3)) b j = V b j := by
    intro b j h1 h2
    unfold vOwn
    split
    · repeat rw [vU_ne _ _ (by omega)]
    · rfl
  obtain ⟨s1, s2, e1, e2, r2, b1, b2, k0⟩ := bothS h hsm (kq_own h.2.1 h.2.2.1 (mI s 0 (7 * i + 1)) (mI s 0 (7 * i + 2)) (mI s 0 (7 * i + 3)) hW) (fun s1 hr => m_ownQ hr (mI s 0 (7 * i + 1)) (mI s 0 (7 * i + 2)) (mI s 0 (7 * i + 3)))
  have c1 : nI (7 * i) + 1 = nI (7 * i + 1) := nI_add (7 * i) 1
  have d1 : (nI (7 * i + 1)).toNatClampNeg = 7 * i + 1 := nI_clamp (by omega)
  have v1 : vp_in (nI (7 * i + 1)) L := vp_in_nI (by omega) (by omega)
  have c2 : nI (7 * i) + 2 = nI (7 * i + 2) := nI_add (7 * i) 2
  have d2 : (nI (7 * i + 2)).toNatClampNeg = 7 * i + 2 := nI_clamp (by omega)
  have v2 : vp_in (nI (7 * i + 2)) L := vp_in_nI (by omega) (by omega)
  have c3 : nI (7 * i) + 3 = nI (7 * i + 3) := nI_add (7 * i) 3
  have d3 : (nI (7 * i + 3)).toNatClampNeg = 7 * i + 3 := nI_clamp (by omega)
  have v3 : vp_in (nI (7 * i + 3)) L := vp_in_nI (by omega) (by omega)
  have c7 : nI (7 * i) + 7 = nI (7 * (i + 1)) := nI_add (7 * i) 7
  have eL : (nI L).toNatClampNeg = L := nI_clamp (by omega)
  have k1 : ∀ k, mI s1 0 k = mI s 0 k := fun k => (k0 k).1
  have hs9 : mI s 0 4000 = nI L := hs
  have h0 := h.1.b
  unfold f_La_law_b473 f_La_law_b1966
  simp only [k1, hs9, eL, f_ck_of h0, f_ck_of b1, f_bd_of e1, f_bd_of e2, if_true, c7, c1, d1, f_ck_of v1, c2, d2, f_ck_of v2, c3, d3, f_ck_of v3]
  exact hR s2 _ r2 ((k0 4000).2.trans hs)

theorem lc_later (R23 : Int32 → Sg → Option (Int32 × Sg)) (hR : ∀ s2 V2, RC V2 (i + 1) s2 → SC L s2 → okx P (R23 (nI (7 * (i + 1))) s2)) (h : RC V i s) (hs : SC L s) (hi : 7 * i + 7 ≤ L) (hL : L ≤ 3584) : okx P (f_La_law_b559 R23 (nI (7 * i)) s) := by
  have hW : WV (vLater V (mI s 0 (7 * i + 1)) (mI s 0 (7 * i + 2)) (mI s 0 (7 * i + 3))) := by
    obtain ⟨_, _, hr, _⟩ := m_laterQ h.1 (mI s 0 (7 * i + 1)) (mI s 0 (7 * i + 2)) (mI s 0 (7 * i + 3))
    exact hr.w
  have hsm : ∀ b j, ¬ (69 ≤ b ∧ b ≤ 73) → ¬ (b = 46 ∧ 45 ≤ j ∧ j ≤ 47) → vLater V (mI s 0 (7 * i + 1)) (mI s 0 (7 * i + 2)) (mI s 0 (7 * i + 3)) b j = V b j := by
    intro b j h1 h2
    unfold vLater
    split
    · repeat rw [vU_ne _ _ (by omega)]
    · rfl
  obtain ⟨s1, s2, e1, e2, r2, b1, b2, k0⟩ := bothS h hsm (kq_later h.2.1 h.2.2.1 (mI s 0 (7 * i + 1)) (mI s 0 (7 * i + 2)) (mI s 0 (7 * i + 3)) hW) (fun s1 hr => m_laterQ hr (mI s 0 (7 * i + 1)) (mI s 0 (7 * i + 2)) (mI s 0 (7 * i + 3)))
  have c1 : nI (7 * i) + 1 = nI (7 * i + 1) := nI_add (7 * i) 1
  have d1 : (nI (7 * i + 1)).toNatClampNeg = 7 * i + 1 := nI_clamp (by omega)
  have v1 : vp_in (nI (7 * i + 1)) L := vp_in_nI (by omega) (by omega)
  have c2 : nI (7 * i) + 2 = nI (7 * i + 2) := nI_add (7 * i) 2
  have d2 : (nI (7 * i + 2)).toNatClampNeg = 7 * i + 2 := nI_clamp (by omega)
  have v2 : vp_in (nI (7 * i + 2)) L := vp_in_nI (by omega) (by omega)
  have c3 : nI (7 * i) + 3 = nI (7 * i + 3) := nI_add (7 * i) 3
  have d3 : (nI (7 * i + 3)).toNatClampNeg = 7 * i + 3 := nI_clamp (by omega)
  have v3 : vp_in (nI (7 * i + 3)) L := vp_in_nI (by omega) (by omega)
  have c7 : nI (7 * i) + 7 = nI (7 * (i + 1)) := nI_add (7 * i) 7
  have eL : (nI L).toNatClampNeg = L := nI_clamp (by omega)
  have k1 : ∀ k, mI s1 0 k = mI s 0 k := fun k => (k0 k).1
  have hs9 : mI s 0 4000 = nI L := hs
  have h0 := h.1.b
  unfold f_La_law_b559 f_La_law_b1966
  simp only [k1, hs9, eL, f_ck_of h0, f_ck_of b1, f_bd_of e1, f_bd_of e2, if_true, c7, c1, d1, f_ck_of v1, c2, d2, f_ck_of v2, c3, d3, f_ck_of v3]
  exact hR s2 _ r2 ((k0 4000).2.trans hs)

theorem lc_chance (R23 : Int32 → Sg → Option (Int32 × Sg)) (hR : ∀ s2 V2, RC V2 (i + 1) s2 → SC L s2 → okx P (R23 (nI (7 * (i + 1))) s2)) (h : RC V i s) (hs : SC L s) (hi : 7 * i + 7 ≤ L) (hL : L ≤ 3584) : okx P (f_La_law_b608 R23 (nI (7 * i)) s) := by
  have hW : WV (vChance V (mI s 0 (7 * i + 1))) := by
    obtain ⟨_, _, hr, _⟩ := m_chanceQ h.1 (mI s 0 (7 * i + 1))
    exact hr.w
  have hsm : ∀ b j, ¬ (69 ≤ b ∧ b ≤ 73) → ¬ (b = 46 ∧ 45 ≤ j ∧ j ≤ 47) → vChance V (mI s 0 (7 * i + 1)) b j = V b j := by
    intro b j h1 h2
    unfold vChance
    split
    · repeat rw [vU_ne _ _ (by omega)]
    · rfl
  obtain ⟨s1, s2, e1, e2, r2, b1, b2, k0⟩ := bothS h hsm (kq_chance h.2.1 h.2.2.1 (mI s 0 (7 * i + 1)) hW) (fun s1 hr => m_chanceQ hr (mI s 0 (7 * i + 1)))
  have c1 : nI (7 * i) + 1 = nI (7 * i + 1) := nI_add (7 * i) 1
  have d1 : (nI (7 * i + 1)).toNatClampNeg = 7 * i + 1 := nI_clamp (by omega)
  have v1 : vp_in (nI (7 * i + 1)) L := vp_in_nI (by omega) (by omega)
  have c7 : nI (7 * i) + 7 = nI (7 * (i + 1)) := nI_add (7 * i) 7
  have eL : (nI L).toNatClampNeg = L := nI_clamp (by omega)
  have k1 : ∀ k, mI s1 0 k = mI s 0 k := fun k => (k0 k).1
  have hs9 : mI s 0 4000 = nI L := hs
  have h0 := h.1.b
  unfold f_La_law_b608 f_La_law_b1966
  simp only [k1, hs9, eL, f_ck_of h0, f_ck_of b1, f_bd_of e1, f_bd_of e2, if_true, c7, c1, d1, f_ck_of v1]
  exact hR s2 _ r2 ((k0 4000).2.trans hs)

theorem lc_bargain (R23 : Int32 → Sg → Option (Int32 × Sg)) (hR : ∀ s2 V2, RC V2 (i + 1) s2 → SC L s2 → okx P (R23 (nI (7 * (i + 1))) s2)) (h : RC V i s) (hs : SC L s) (hi : 7 * i + 7 ≤ L) (hL : L ≤ 3584) : okx P (f_La_law_b726 R23 (nI (7 * i)) s) := by
  have hW : WV (vBarg V (mI s 0 (7 * i + 1)) (mI s 0 (7 * i + 2))) := by
    obtain ⟨_, _, hr, _⟩ := m_bargQ h.1 (mI s 0 (7 * i + 1)) (mI s 0 (7 * i + 2))
    exact hr.w
  have hsm : ∀ b j, ¬ (69 ≤ b ∧ b ≤ 73) → ¬ (b = 46 ∧ 45 ≤ j ∧ j ≤ 47) → vBarg V (mI s 0 (7 * i + 1)) (mI s 0 (7 * i + 2)) b j = V b j := by
    intro b j h1 h2
    unfold vBarg
    split
    · repeat rw [vU_ne _ _ (by omega)]
    · rfl
  obtain ⟨s1, s2, e1, e2, r2, b1, b2, k0⟩ := bothS h hsm (kq_barg h.2.1 h.2.2.1 (mI s 0 (7 * i + 1)) (mI s 0 (7 * i + 2)) hW) (fun s1 hr => m_bargQ hr (mI s 0 (7 * i + 1)) (mI s 0 (7 * i + 2)))
  have c1 : nI (7 * i) + 1 = nI (7 * i + 1) := nI_add (7 * i) 1
  have d1 : (nI (7 * i + 1)).toNatClampNeg = 7 * i + 1 := nI_clamp (by omega)
  have v1 : vp_in (nI (7 * i + 1)) L := vp_in_nI (by omega) (by omega)
  have c2 : nI (7 * i) + 2 = nI (7 * i + 2) := nI_add (7 * i) 2
  have d2 : (nI (7 * i + 2)).toNatClampNeg = 7 * i + 2 := nI_clamp (by omega)
  have v2 : vp_in (nI (7 * i + 2)) L := vp_in_nI (by omega) (by omega)
  have c7 : nI (7 * i) + 7 = nI (7 * (i + 1)) := nI_add (7 * i) 7
  have eL : (nI L).toNatClampNeg = L := nI_clamp (by omega)
  have k1 : ∀ k, mI s1 0 k = mI s 0 k := fun k => (k0 k).1
  have hs9 : mI s 0 4000 = nI L := hs
  have h0 := h.1.b
  unfold f_La_law_b726 f_La_law_b1966
  simp only [k1, hs9, eL, f_ck_of h0, f_ck_of b1, f_bd_of e1, f_bd_of e2, if_true, c7, c1, d1, f_ck_of v1, c2, d2, f_ck_of v2]
  exact hR s2 _ r2 ((k0 4000).2.trans hs)
end
