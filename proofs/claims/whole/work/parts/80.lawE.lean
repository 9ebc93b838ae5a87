/-! the law's calls of edge and count -/
section
variable {V : Vw} {s : Sg} {i L : Nat} {P : Int32 → Sg → Prop}
theorem lc_edge (R23 : Int32 → Sg → Option (Int32 × Sg)) (hR : ∀ s2 V2, RC V2 (i + 1) s2 → SC L s2 → okx P (R23 (nI (7 * (i + 1))) s2)) (h : RC V i s) (hs : SC L s) (hi : 7 * i + 7 ≤ L) (hL : L ≤ 3584) : okx P (f_La_law_b1839 R23 (nI (7 * i)) s) := by
  have hA := h.2.2.2.1
  have hC : QC V s (f_Wk_edge (mI s 0 (7 * i + 1)) (mI s 0 (7 * i + 2)) (mI s 0 (7 * i + 3)) s) (aEdge V (mI s 0 (7 * i + 1)) (mI s 0 (7 * i + 2)) (mI s 0 (7 * i + 3))) (fun _ => True) := by
    obtain ⟨s1, e1, k1, g1, p1, a1⟩ := kq_edge h.2.1 h.2.2.1 (mI s 0 (7 * i + 1)) (mI s 0 (7 * i + 2)) (mI s 0 (7 * i + 3)) (by omega)
    exact ⟨s1, e1, k1, g1.u, p1, a1, trivial⟩
  obtain ⟨s1, s2, V2, e1, e2, r2, b1, b2, t2, -, -, k0⟩ := both h hC (fun s1 hr => m_edgeQ hr (mI s 0 (7 * i + 1)) (mI s 0 (7 * i + 2)) (mI s 0 (7 * i + 3)))
  have c1 : nI (7 * i) + 1 = nI (7 * i + 1) := nI_add (7 * i) 1
  have d1 : (nI (7 * i + 1)).toNatClampNeg = 7 * i + 1 := nI_clamp (by omega)
  have v1 : vp_in (nI (7 * i + 1)) L := vp_in_nI (by omega) (by omega)
  have c2 : nI (7 * i) + 2 = nI (7 * i + 2) := nI_add (7 * i) 2
  have d2 : (nI (7 * i + 2)).toNatClampNeg = 7 * i + 2 := nI_clamp (by omega)
  have v2 : vp_in (nI (7 * i + 2)) L := vp_in_nI (by omega) (by omega)
  have c3 : nI (7 * i) + 3 = nI (7 * i + 3) := nI_add (7 * i) 3
  have d3 : (nI (7 * i + 3)).toNatClampNeg = 7 * i + 3 := nI_clamp (by omega)
  have v3 : vp_in (nI (7 * i + 3)) L := vp_in_nI (by omega) (by omega)
  have c7 : nI (7 * i) + 7 = nI (7 * (i + 1)) := nI_add (7 * i) 7
  have eL : (nI L).toNatClampNeg = L := nI_clamp (by omega)
  have k1 : ∀ k, mI s1 0 k = mI s 0 k := fun k => (k0 k).1
  have hs9 : mI s 0 4000 = nI L := hs
  have h0 := h.1.b
  unfold f_La_law_b1839 f_La_law_b1966
  simp only [k1, hs9, eL, f_ck_of h0, f_ck_of b1, f_bd_of e1, f_bd_of e2, if_true, c7, c1, d1, f_ck_of v1, c2, d2, f_ck_of v2, c3, d3, f_ck_of v3]
  exact hR s2 V2 r2 ((k0 4000).2.trans hs)
theorem lc_count (R23 : Int32 → Sg → Option (Int32 × Sg)) (hR : ∀ s2 V2, RC V2 (i + 1) s2 → SC L s2 → okx P (R23 (nI (7 * (i + 1))) s2)) (h : RC V i s) (hs : SC L s) (hi : 7 * i + 7 ≤ L) (hL : L ≤ 3584) : okx P (f_La_law_b1941 R23 (nI (7 * i)) s) := by
  obtain ⟨s1, s2, V2, e1, e2, r2, b1, b2, t2, -, -, k0⟩ := both h (kq_count h.2.1 h.2.2.1 h.2.2.2.2.1.1.1 (mI s 0 (7 * i + 1))).c (fun s1 hr => m_countQ hr (mI s 0 (7 * i + 1)))
  have c1 : nI (7 * i) + 1 = nI (7 * i + 1) := nI_add (7 * i) 1
  have d1 : (nI (7 * i + 1)).toNatClampNeg = 7 * i + 1 := nI_clamp (by omega)
  have v1 : vp_in (nI (7 * i + 1)) L := vp_in_nI (by omega) (by omega)
  have c7 : nI (7 * i) + 7 = nI (7 * (i + 1)) := nI_add (7 * i) 7
  have eL : (nI L).toNatClampNeg = L := nI_clamp (by omega)
  have k1 : ∀ k, mI s1 0 k = mI s 0 k := fun k => (k0 k).1
  have hs9 : mI s 0 4000 = nI L := hs
  have h0 := h.1.b
  unfold f_La_law_b1941 f_La_law_b1966
  simp only [k1, hs9, eL, f_ck_of h0, f_ck_of b1, f_bd_of e1, f_bd_of e2, if_true, c7, c1, d1, f_ck_of v1]
  exact hR s2 V2 r2 ((k0 4000).2.trans hs)
end
