/-! the law's call of feed -/
section
variable {V V' : Vw} {s s' : Sg} {i L : Nat} {P : Int32 → Sg → Prop}
theorem plv_g (hW : WV V) (hn : ∀ b j, b ≠ 69 → b ≠ 70 → ¬ (b = 47 ∨ 76 ≤ b ∨ (b = 46 ∧ j = 1) ∨ (b = 50 ∧ 16 ≤ j)) → V' b j = V b j) (x : Nat) : plv V' x = plv V x := by
  have ep : pN V' = pN V := by unfold pN; rw [hn 46 10 (by decide) (by decide) (by decide)]
  have eo : ∀ d, owP V' d = owP V d ∧ ndP V' d = ndP V d := fun d => by unfold owP ndP; rw [ep]; exact ⟨rfl, rfl⟩
  have ed : ∀ j, sDig V' x j = sDig V x j := fun j => by unfold sDig; rw [ep]
  have l1 : laid (plW V x) 0 (fun t => owP V (sDig V x t)) (fun t => ndP V (sDig V x t)) 3 := kW_la0
  have l2 : laid (plW V' x) 0 (fun j => owP V' (sDig V' x j)) (fun j => ndP V' (sDig V' x j)) 3 := kW_la0
  have k7 : ∀ b j, trp b j = false → b ≠ 69 → b ≠ 70 → ¬ (b = 47 ∨ 76 ≤ b ∨ (b = 46 ∧ j = 1) ∨ (b = 50 ∧ 16 ≤ j)) → plW V' x b j = plW V x b j := fun b j hb h1 h2 h3 => (kW_no hb : plW V' x b j = _).trans ((hn b j h1 h2 h3).trans (kW_no hb : plW V x b j = V b j).symm)
  have hpt : tN (plW V x) = tN V := eqW_tN kW_eq
  have hq7 : ∀ b j, (71 ≤ b ∧ b ≤ 73) → ¬ (b = 47 ∨ 76 ≤ b ∨ (b = 46 ∧ j = 1) ∨ (b = 50 ∧ 16 ≤ j)) := by
    intro b j hb h9
    rcases h9 with h9 | h9 | h9
    · omega
    · omega
    · omega
  have q : eqQ (plW V x) (plW V' x) := by
    have z1 : plW V x 46 39 = 10 := kW_39
    have z2 : plW V' x 46 39 = 10 := kW_39
    have z3 : plW V x 46 50 = 0 := kW_50
    have z4 : plW V' x 46 50 = 0 := kW_50
    refine ⟨⟨k7, z2.trans z1.symm, Or.inl z1⟩, fun j hj => ?_, fun j hj => ?_, z4.trans z3.symm, Or.inl z3⟩
    · have hj3 : j < 3 := by have := hW.2.1.2; omega
      rw [(l1 j hj3).1, (l1 j hj3).2.1, (l2 j hj3).1, (l2 j hj3).2.1]
      simp only [ed, (eo _).1, (eo _).2]
      exact ⟨trivial, trivial⟩
    · have hj3 : j < 3 := by have := hW.2.1.2; omega
      have e30 : 3 + j = 0 + 3 + j := by omega
      rw [e30]
      rw [(l1 j hj3).2.2.1, (l1 j hj3).2.2.2, (l2 j hj3).2.2.1, (l2 j hj3).2.2.2, k7 73 j rfl (by decide) (by decide) (hq7 73 j (by decide)), k7 71 j rfl (by decide) (by decide) (hq7 71 j (by decide)), k7 72 j rfl (by decide) (by decide) (hq7 72 j (by decide))]
      simp only [ed, (eo _).1, (eo _).2]
      exact ⟨trivial, trivial⟩
  unfold plv plO
  rw [gO_cg q]
theorem fdA_tp (V : Vw) (a b c : Int64) : tpS V (fdA V a b c) := ((fdK_tp a 8 0 V).trans (fdK_tp b 8 0 _)).trans (fdK_tp c 8 0 _)
theorem fdA_ok {V : Vw} (h : tpOk V) (a b c : Int64) : tpOk (fdA V a b c) := fdK_ok c 8 0 _ (fdK_ok b 8 0 _ (fdK_ok a 8 0 V h))
theorem feed_RC (h : RC V i s) (a b c : Int64) : ∃ s1 s2 V', f_Wk_feed a b c s = some (fdA V a b c 46 1, s1) ∧ f_Mo_feed a b c s1 = some (fdA V a b c 46 1, s2) ∧ RC V' (i + 1) s2 ∧ zl_B s1 ∧ (∀ k, mI s1 0 k = mI s 0 k ∧ mI s2 0 k = mI s 0 k) := by
  obtain ⟨hR, hT, hP, hA, hta, hma, hst, hsg⟩ := h
  have ho : tpOk V := ⟨hta.1.2, hta.2.2⟩
  obtain ⟨s1, e1, t1, k1⟩ := k_feed hR.b ho ⟨hta.1.1, hta.2.1⟩ a b c
  have g1 : GU s s1 → RM V s1 := fun g => hR.gu g
  have r1 : RM V s1 := by
    refine ⟨by rw [k1.1.1]; exact hR.1, by rw [k1.1.2]; exact hR.2.1, hR.w, fun x y hk => ?_, ?_⟩
    · have hx : x ≠ 43 ∧ ¬ (x = 42 ∧ y = 2) := by
        refine ⟨fun e => ?_, fun e => ?_⟩
        · rw [e] at hk; exact absurd hk (by simp [lgM])
        · rw [e.1, e.2] at hk; exact absurd hk (by decide)
      rw [k1.2.1 x y hx.1 hx.2]
      exact hR.e x y hk
    · rw [k1.2.2]; exact hR.2.2.2.2
  obtain ⟨s2, e2, r2, f2⟩ := m_feed r1 ho a b c
  have hv := fdA_tp V a b c
  have hok := fdA_ok ho a b c
  have hm : ∀ x y, x < 46 ∨ 80 ≤ x → x ≠ 43 → ¬ (x = 42 ∧ y = 2) → mI s2 x y = mI s x y := fun x y h1 h2 h3 => ((f2.2.2 x y h1).1).trans (k1.2.1 x y h2 h3)
  have hn2 : mN s2 = mN s ∧ s2.2.2.1 = s.2.2.1 := ⟨f2.1.trans k1.1.1, f2.2.1.trans k1.1.2⟩
  refine ⟨s1, s2, _, e1, e2, ⟨r2, ?_, ?_, ?_, ?_, ?_, ?_, ?_⟩, k1.b hR.b, fun k => ⟨k1.2.1 0 k (by decide) (by omega), hm 0 k (by omega) (by decide) (by omega)⟩⟩
  · refine KT_new hT r2.w (fun x y hb => hv x y (by omega)) hn2 (fun x y hb => hm x y (by omega) (by omega) (by omega)) ?_ ?_
    · rw [hm 7 3 (by omega) (by decide) (by decide), hm 7 4 (by omega) (by decide) (by decide), hm 7 5 (by omega) (by decide) (by decide), hv 46 46 (by decide), hv 46 47 (by decide), hv 46 45 (by decide)]
      exact T0 hT
    · intro u hu
      have h9 := TO hT u hu
      have hvt : ∀ j, j < 10 → vT s2 7 j u = vT s 7 j u := fun j hj => hm (7 + j) u (by omega) (by omega) (by omega)
      rw [hvt 6 (by decide), hvt 7 (by decide), hvt 8 (by decide), hvt 9 (by decide), hv 69 u (by omega), hv 70 u (by omega), hv 71 u (by omega), hv 72 u (by omega), hv 73 u (by omega)]
      exact h9
  · intro x hx
    have eo : sOws (fdA V a b c) = sOws V := by
      unfold sOws pN tN
      rw [hv 46 10 (by decide), hv 46 11 (by decide)]
    rw [eo] at hx
    rw [hm 45 x (by omega) (by decide) (by omega), plv_g hR.w (fun b j h1 h2 h3 => hv b j (by omega))]
    exact hP x hx
  · have : ageN s2 = ageN s := by unfold ageN; rw [hm 6 5 (by omega) (by decide) (by decide)]
    rw [this]
    omega
  · refine ⟨⟨?_, hok.1⟩, fun k hk => ?_, hok.2⟩
    · rw [(f2.2.2 42 2 (by omega)).1]; exact t1.1
    · rw [(f2.2.2 43 k (by omega)).1]; exact t1.2 k hk
  · have hk := RK_f hma hn2 (fun x y hx => hm x y (by omega) (by omega) (by omega))
    have e : ∀ m, mkW (fdA V a b c) m = mkW V m := by
      intro m
      funext x k
      unfold mkW
      simp only [fun k => hv 77 k (by omega), fun k => hv 79 k (by omega)]
    refine ⟨fun m hm9 => ?_, hk.2⟩
    rw [hv 76 m (by omega), e]
    exact hk.1 m hm9
  · refine ⟨(hm 35 0 (by omega) (by decide) (by omega)).trans hst.1, fun k hk => ?_⟩
    obtain ⟨h1, h2⟩ := hst.2 k hk
    rw [hm 33 k (by omega) (by decide) (by omega), hv 50 (16 + k) (by omega)]
    exact ⟨h1, h2⟩
  · intro k
    rw [hm 3 k (by omega) (by decide) (by omega)]
    exact hsg k
theorem lc_feed (R23 : Int32 → Sg → Option (Int32 × Sg)) (hR : ∀ s2 V2, RC V2 (i + 1) s2 → SC L s2 → okx P (R23 (nI (7 * (i + 1))) s2)) (h : RC V i s) (hs : SC L s) (hi : 7 * i + 7 ≤ L) (hL : L ≤ 3584) : okx P (f_La_law_b196 R23 (nI (7 * i)) s) := by
  obtain ⟨s1, s2, V2, e1, e2, r2, b1, k0⟩ := feed_RC h (((Int32.toInt64 (mI s 0 (7 * i + 1))) <<< (Int32.toInt64 32 &&& 63)) ||| ((Int32.toInt64 (mI s 0 (7 * i + 2))) &&& 4294967295)) (((Int32.toInt64 (mI s 0 (7 * i + 3))) <<< (Int32.toInt64 32 &&& 63)) ||| ((Int32.toInt64 (mI s 0 (7 * i + 4))) &&& 4294967295)) (((Int32.toInt64 (mI s 0 (7 * i + 5))) <<< (Int32.toInt64 32 &&& 63)) ||| ((Int32.toInt64 (mI s 0 (7 * i + 6))) &&& 4294967295))
  have c1 : nI (7 * i) + 1 = nI (7 * i + 1) := nI_add (7 * i) 1
  have d1 : (nI (7 * i + 1)).toNatClampNeg = 7 * i + 1 := nI_clamp (by omega)
  have v1 : vp_in (nI (7 * i + 1)) L := vp_in_nI (by omega) (by omega)
  have c2 : nI (7 * i) + 2 = nI (7 * i + 2) := nI_add (7 * i) 2
  have d2 : (nI (7 * i + 2)).toNatClampNeg = 7 * i + 2 := nI_clamp (by omega)
  have v2 : vp_in (nI (7 * i + 2)) L := vp_in_nI (by omega) (by omega)
  have c3 : nI (7 * i) + 3 = nI (7 * i + 3) := nI_add (7 * i) 3
  have d3 : (nI (7 * i + 3)).toNatClampNeg = 7 * i + 3 := nI_clamp (by omega)
  have v3 : vp_in (nI (7 * i + 3)) L := vp_in_nI (by omega) (by omega)
  have c4 : nI (7 * i) + 4 = nI (7 * i + 4) := nI_add (7 * i) 4
  have d4 : (nI (7 * i + 4)).toNatClampNeg = 7 * i + 4 := nI_clamp (by omega)
  have v4 : vp_in (nI (7 * i + 4)) L := vp_in_nI (by omega) (by omega)
  have c5 : nI (7 * i) + 5 = nI (7 * i + 5) := nI_add (7 * i) 5
  have d5 : (nI (7 * i + 5)).toNatClampNeg = 7 * i + 5 := nI_clamp (by omega)
  have v5 : vp_in (nI (7 * i + 5)) L := vp_in_nI (by omega) (by omega)
  have c6 : nI (7 * i) + 6 = nI (7 * i + 6) := nI_add (7 * i) 6
  have d6 : (nI (7 * i + 6)).toNatClampNeg = 7 * i + 6 := nI_clamp (by omega)
  have v6 : vp_in (nI (7 * i + 6)) L := vp_in_nI (by omega) (by omega)
  have c7 : nI (7 * i) + 7 = nI (7 * (i + 1)) := nI_add (7 * i) 7
  have eL : (nI L).toNatClampNeg = L := nI_clamp (by omega)
  have k1 : ∀ k, mI s1 0 k = mI s 0 k := fun k => (k0 k).1
  have hs9 : mI s 0 4000 = nI L := hs
  have h0 := h.1.b
  unfold f_La_law_b196 f_La_law_b1966
  simp only [k1, hs9, eL, f_ck_of h0, f_ck_of b1, c7, c1, d1, f_ck_of v1, c2, d2, f_ck_of v2, c3, d3, f_ck_of v3, c4, d4, f_ck_of v4, c5, d5, f_ck_of v5, c6, d6, f_ck_of v6]
  rw [f_bd_of e1]
  simp only [k1, hs9, eL, f_ck_of b1, c7, d1, f_ck_of v1, d2, f_ck_of v2, d3, f_ck_of v3, d4, f_ck_of v4, d5, f_ck_of v5, d6, f_ck_of v6]
  rw [f_bd_of e2, if_pos rfl]
  exact hR s2 V2 r2 ((k0 4000).2.trans hs)
end
