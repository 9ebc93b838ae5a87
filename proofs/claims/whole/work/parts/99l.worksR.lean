/-! works: class and model stay alike -/
section
variable {V V' : Vw} {s s' : Sg} {i L : Nat} {P : Int32 → Sg → Prop}
theorem RK_g (h : RK V s) (hn : mN s' = mN s) (hr : ∀ a k, a ≠ 42 → mR s' a k = mR s a k) (hf : ∀ a k, 81 ≤ a → mI s' a k = mI s a k) : RK V s' := by
  obtain ⟨h1, h2, h3⟩ := h
  refine ⟨fun m hm => ?_, fun m m' a k1 k2 k3 k4 => ?_, by rw [hn]; exact h3⟩
  · rw [hr 41 m (by decide)]
    rcases h1 m hm with h9 | ⟨e, w, j, j1, j2, j3, j4⟩
    · exact Or.inl h9
    · refine Or.inr ⟨e, w, j, j1, by rw [hn]; exact j2, fun i hi => by rw [hr _ _ (by omega)]; exact j3 i hi, TV_cg j4 (fun i hi => funext fun k => hf (81 + 10 * j + i) k (by omega))⟩
  · rw [hr 41 _ (by decide)] at k4 ⊢
    exact h2 m m' a k1 k2 k3 k4
theorem KT_lo {W : Vw} (h : KT W s) (hb : zl_B s') (hf : ∀ a k, a < 31 → mI s' a k = mI s a k) : KT W s' := by
  obtain ⟨⟨b, w, t, h7, h6, h4, ho⟩, hr, hg⟩ := h
  refine ⟨⟨hb, w, TV_cg t (fun j hj => funext fun k => hf (7 + j) k (by omega)), (hf 6 7 (by decide)).trans h7, ?_, h4, fun k => (hf 1 k (by decide)).trans (ho k)⟩, fun q hq h18 t ht u hu => ?_, ?_⟩
  · rw [hf 6 6 (by decide)]; exact h6
  · rw [hf 18 q (by decide), hf 6 5 (by decide)] at h18
    rw [hf 17 _ (by decide)]
    exact hr q hq h18 t ht u hu
  · unfold AGE
    rw [hf 6 5 (by decide)]
    refine ⟨hg.1, fun q hq => ?_⟩
    rw [hf 18 q (by decide)]
    exact hg.2 q hq
theorem lg_cs {a k : Nat} (h : lgM a k = true) : (a = 46 ∧ (k = 1 ∨ (10 ≤ k ∧ k ≤ 12) ∨ k = 38 ∨ k = 39 ∨ (45 ≤ k ∧ k ≤ 47) ∨ (50 ≤ k ∧ k ≤ 52))) ∨ (a = 49 ∧ k < 4) ∨ (a = 50 ∧ k < 32) ∨ ((a = 51 ∨ a = 52) ∧ k < 8) ∨ (68 ≤ a ∧ a ≤ 77) ∨ a = 47 ∨ a = 79 := by
  simp only [lgM, Bool.or_eq_true, Bool.and_eq_true, beq_iff_eq, decide_eq_true_eq] at h
  omega
/-- the world when a text was wrong -/
def fW (V : Vw) (q : Nat → Nat) : Vw := fun a k => if a = 46 ∧ k = 1 then 0 else if a = 50 ∧ 16 ≤ k then nI (q (k - 16)) else V a k
theorem fW_n {q : Nat → Nat} {a k : Nat} (h1 : ¬ (a = 46 ∧ k = 1)) (h2 : ¬ (a = 50 ∧ 16 ≤ k)) : fW V q a k = V a k := by
  unfold fW
  rw [if_neg h1, if_neg h2]
theorem fW_50 {q : Nat → Nat} (k : Nat) : fW V q 50 (16 + k) = nI (q k) := by
  unfold fW
  rw [if_neg (by omega), if_pos ⟨rfl, by omega⟩, show 16 + k - 16 = k by omega]
theorem fW_tE {q : Nat → Nat} : tE V (fW V q) := fun i hi => by
  have h := kp_s (a := (kp i).1) (k := (kp i).2) hi rfl
  exact fW_n (by omega) (by omega)
theorem fW_eqT {q : Nat → Nat} : eqT (askW V) (askW (fW V q)) := by
  refine ⟨fun b j hb h1 h2 h3 => ?_, (kW_39 : askW (fW V q) 46 39 = 10).trans (kW_39 : askW V 46 39 = 10).symm, Or.inl kW_39⟩
  exact (kW_no hb : askW (fW V q) b j = _).trans ((fW_n (by omega) (by omega)).trans (kW_no hb : askW V b j = _).symm)
/-- the tape, and the stale costs, as numbers -/
def tpT (V : Vw) (k : Nat) : Nat := (V 47 k).toNatClampNeg
def csT (V : Vw) (k : Nat) : Nat := if k < 16 then (V 50 (16 + k)).toNatClampNeg else 0
theorem csT_n (h : RS V s) {k : Nat} (hk : k < 16) : V 50 (16 + k) = nI (csT V k) := by
  obtain ⟨j, hj, e⟩ := (h.2 k hk).2
  unfold csT
  rw [if_pos hk, e, nI_clamp (by omega)]
theorem csT_b (h : RS V s) (k : Nat) : csT V k ≤ 999 := by
  unfold csT
  by_cases hk : k < 16
  · obtain ⟨j, hj, e⟩ := (h.2 k hk).2
    rw [if_pos hk, e, nI_clamp (by omega)]
    exact hj
  · rw [if_neg hk]; exact Nat.zero_le _
theorem rt_T (h : RT V s) {n : Nat} (hn : V 46 1 = nI n) (hn2 : n ≤ 1000) {k : Nat} (hk : k < n) : V 47 k = nI (tpT V k) ∧ tpT V k < 127 := by
  obtain ⟨c, e, hc⟩ := h.2.2 k (by rw [hn, nI_clamp (by omega)]; exact hk)
  unfold tpT
  rw [e, nI_clamp (by omega)]
  exact ⟨rfl, by omega⟩
theorem lw_or : ∀ w, w < 128 → w % 16 ||| w / 16 * 16 = w := by decide +kernel
/-- the world of a text that was read -/
def sW (V : Vw) (s : Sg) : Vw := fun a k => if a = 46 ∧ k = 53 then V 46 53 else mI s a k
theorem works_RC (h : RC V i s) (hi5 : i ≤ 512) : ∃ r s1 s2 V', f_Wk_works s = some (r, s1) ∧ f_Mo_works s1 = some (r, s2) ∧ RC V' (i + 1) s2 ∧ zl_B s1 ∧ (∀ k, mI s1 0 k = mI s 0 k ∧ mI s2 0 k = mI s 0 k) := by
  obtain ⟨hR, hT, hP, hA, hta, hma, hst, hsg⟩ := h
  have hW := hR.w
  obtain ⟨n, hn, en⟩ := hta.1.2
  have hTT := fun k hk => rt_T hta en hn (k := k) hk
  have hx : CTx (tpT V) n s := ⟨hR.b, hn, hta.1.1.trans en, fun k hk => ⟨(hta.2.1 k (by omega)).trans (hTT k hk).1, (hTT k hk).2⟩, hsg⟩
  have hcC : CC (csT V) s := fun k hk => by
    rw [(hst.2 k hk).1, csT_n hst hk]
  have hcb := csT_b hst
  have hg := z00_G (T := tpT V) hcb hn
  have hpg := pAll_G (T := tpT V) hn 1001 (z00 (csT V)) (tkn (tpT V) n 0) (by omega) hg
  have hK := k_read (T := tpT V) (n := n) hx hcC hcb hst.1
  -- the model begins where the class left it
  have hM0 : ∀ t : Sg, zl_B t → (∀ a k, 46 ≤ a → mI t a k = mI s a k) → mI (uI t 46 0 0) 46 1 = nI n ∧ (∀ k, k < n → mI (uI t 46 0 0) 47 k = nI (tpT V k) ∧ tpT V k < 127) ∧ MC (csT V) (uI t 46 0 0) := by
    intro t ht hf
    refine ⟨?_, fun k hk => ⟨?_, (hTT k hk).2⟩, fun k hk => ?_⟩
    · rw [mI_ne _ _ (by omega), hf 46 1 (by decide), hR.e 46 1 rfl, en]
    · rw [mI_ne _ _ (by omega), hf 47 k (by decide), hR.e 47 k (by simp [lgM])]
      exact (hTT k hk).1
    · rw [mI_ne _ _ (by omega), hf 50 _ (by decide), hR.e 50 (16 + k) (by simp [lgM]; omega)]
      exact csT_n hst hk
  cases hr : pAll (tkn (tpT V) n) 1001 (z00 (csT V)) (tkn (tpT V) n 0) with
  | error q =>
    rw [hr] at hK hpg
    obtain ⟨s1, e1, ⟨⟨n1, b1⟩, fI, f35, fL, fR⟩, cc1, l1⟩ := hK
    obtain ⟨qb, qe⟩ := hpg
    obtain ⟨m1, m2, m3⟩ := hM0 s1 b1 (fun a k ha => fI a k (by omega) (by omega))
    have hM := m_readsAll (T := tpT V) (s := uI s1 46 0 0) b1 hn m1 m2 m3 hcb
    rw [hr] at hM
    obtain ⟨s2, e2, f2, z2, mc2, l2⟩ := hM
    have b2 : zl_B s2 := f2.b b1
    have hlo : ∀ a k, a < 46 → mI s2 a k = mI s1 a k := fun a k ha => (f2.2.1 a k (by unfold rdA qA; omega)).trans (mI_ne _ _ (by omega))
    have h81 : ∀ a k, 80 ≤ a → mI s2 a k = mI s1 a k := fun a k ha => (f2.2.1 a k (by unfold rdA qA; omega)).trans (mI_ne _ _ (by omega))
    have hR2 : ∀ a k, mR s2 a k = mR s1 a k := fun a k => f2.r a k
    have ne0 : ¬ nI q.1 = 0 := nI_ne0 (by unfold FE at qe; omega) (by unfold FE at qe; omega)
    have hW' : WV (fW V q.2) := WV_tE fW_tE hW
    refine ⟨nI q.1, s1, s2, fW V q.2, ?_, ?_, ⟨⟨b2.1, b2.2, hW', fun a k hk => ?_, ?_⟩, ?_, ?_, ?_, ?_, ?_, ?_, ?_⟩, b1, fun k => ⟨fI 0 k (by omega) (by omega), (hlo 0 k (by omega)).trans (fI 0 k (by omega) (by omega))⟩⟩
    · unfold f_Wk_works
      rw [f_ck_of hR.b, f_bd_of e1, if_neg ne0]
    · unfold f_Mo_works
      rw [f_ck_of b1]
      refine (f_bd_of e2).trans ?_
      rw [if_pos rfl, f_ck_of b2, z2]
    · have hl := lg_cs hk
      by_cases c1 : a = 46 ∧ k = 1
      · rw [c1.1, c1.2, l2]; rfl
      · by_cases c2 : a = 50 ∧ 16 ≤ k
        · obtain ⟨rfl, ck⟩ := c2
          obtain ⟨j, rfl⟩ : ∃ j, k = 16 + j := ⟨k - 16, by omega⟩
          rw [fW_50]
          exact mc2 j (by omega)
        · rw [fW_n c1 c2, f2.2.1 a k (by unfold rdA qA; omega), mI_ne _ _ (by omega), fI a k (by omega) (by omega)]
          exact hR.e a k hk
    · rw [fW_n (by omega) (by omega), f2.2.2 46 53 (by unfold qB; omega)]
      exact (fL 46 53 (by omega) (by decide)).trans hR.2.2.2.2
    · have k2 := KT_lo hT b2 (fun a k ha => (hlo a k (by omega)).trans (fI a k (by omega) (by omega)))
      obtain ⟨⟨b, w, t, h7, h6, h4, ho⟩, hrw, hg2⟩ := k2
      exact ⟨⟨b, WV_eqW hW' kW_eq, TV_ask.mpr (TV_tE fW_tE hW (TV_ask.mp t)), h7.trans ((kW_39 : askW V 46 39 = 10).trans (kW_39 : askW (fW V q.2) 46 39 = 10).symm), Or.inl kW_39, ⟨10, by decide, kW_39⟩, ho⟩, RWr_cg fW_eqT hrw, hg2⟩
    · intro x hx9
      have eo : sOws (fW V q.2) = sOws V := by
        unfold sOws pN tN
        rw [fW_n (by omega) (by omega), fW_n (by omega) (by omega)]
      rw [eo] at hx9
      rw [hlo 45 x (by omega), fI 45 x (by omega) (by omega), plv_g hW (fun b j h1 h2 h3 => fW_n (by omega) (by omega))]
      exact hP x hx9
    · have : ageN s2 = ageN s := by unfold ageN; rw [hlo 6 5 (by omega), fI 6 5 (by omega) (by omega)]
      rw [this]; omega
    · refine ⟨⟨?_, ⟨0, Nat.zero_le _, rfl⟩⟩, fun k hk => ?_, fun k hk => ?_⟩
      · rw [hlo 42 2 (by omega), l1]; rfl
      · rw [hlo 43 k (by omega), fI 43 k (by omega) (by omega), fW_n (by omega) (by omega)]
        exact hta.2.1 k hk
      · have : (fW V q.2 46 1).toNatClampNeg = 0 := rfl
        rw [this] at hk
        exact absurd hk (Nat.not_lt_zero _)
    · have hk := RK_g (s' := s2) hma (f2.1.1.trans n1) (fun a k ha => (hR2 a k).trans (fR a k (by omega))) (fun a k ha => (h81 a k (by omega)).trans (fI a k (by omega) (by omega)))
      refine ⟨fun m hm9 => ?_, hk.2⟩
      rw [fW_n (by omega) (by omega), mkW_x (V := V) (V' := fW V q.2) (m := m) (fun k _ _ => fW_n (by omega) (by omega)) (fun k _ _ => fW_n (by omega) (by omega))]
      exact hk.1 m hm9
    · refine ⟨(hlo 35 0 (by omega)).trans (f35.trans hst.1), fun k hk => ?_⟩
      rw [hlo 33 k (by omega), fW_50, cc1 k hk]
      exact ⟨rfl, q.2 k, qb k, rfl⟩
    · intro k
      rw [hlo 3 k (by omega), fI 3 k (by omega) (by omega)]
      exact hsg k
  | ok z =>
    rw [hr] at hK hpg
    obtain ⟨sr, e0, ⟨⟨n0, b0⟩, fI, f35, fL, fR⟩, ⟨cc0, co0, v310, v311⟩, l0, v31, v37⟩ := hK
    obtain ⟨τ', hpz⟩ := hpg
    obtain ⟨g1, g2, g3, g4, g5, g6, g7⟩ := hpz
    have hst7 := g7.st.1
    -- the class keeps it
    obtain ⟨s3, e3, ⟨d1, d2⟩, d3, d4, d5⟩ := k_copyFrom (OB_7 b0) (OB_31 b0) (Or.inl (by decide))
    have b3 : zl_B s3 := ⟨by rw [d1]; exact b0.1, by rw [d2]; exact b0.2⟩
    obtain ⟨s4, e4, ⟨p1, p2, p3⟩, p4⟩ := k_forgetPlain b3
    have b4 : zl_B s4 := ⟨by rw [p1]; exact b3.1, by rw [p2]; exact b3.2⟩
    have e65 : mI s4 6 5 = mI s 6 5 := ((p3 6 5 (by decide)).1).trans ((d4 6 5 (by omega)).trans (fI 6 5 (by omega) (by omega)))
    have eFA : f_Wk_forgetAll s3 = some ((), uI s4 6 5 (mI s4 6 5 + 1)) := by
      unfold f_Wk_forgetAll
      refine ck_t b3 ((f_bd_of e4).trans (ck_t b4 ?_))
      unfold f_Wo_forget
      exact (f_bd_of (f_ck_of b4)).trans rfl
    have w1 : ∀ a k, a ≠ 45 → ¬ (a = 6 ∧ k = 5) → mI (uI s4 6 5 (mI s4 6 5 + 1)) a k = mI s3 a k := fun a k ha hk => (mI_ne _ _ hk).trans ((p3 a k ha).1)
    have w2 : ∀ a k, ¬ (7 ≤ a ∧ a < 17) → a ≠ 45 → ¬ (a = 6 ∧ k = 5) → mI (uI s4 6 5 (mI s4 6 5 + 1)) a k = mI sr a k := fun a k h9 ha hk => (w1 a k ha hk).trans (d4 a k (by omega))
    have w3 : ∀ a k, a ≠ 45 → mL (uI s4 6 5 (mI s4 6 5 + 1)) a k = mL sr a k := fun a k ha => ((p3 a k ha).2).trans (d3 a k)
    have v65 : mI (uI s4 6 5 (mI s4 6 5 + 1)) 6 5 = nI (ageN s + 1) := by
      rw [mI_at, e65, hT.2.2.1, nI_1]
      rfl
    have v45 : ∀ j, j < 216 → mI (uI s4 6 5 (mI s4 6 5 + 1)) 45 j = 1073741824 := fun j hj => (mI_ne _ _ (by omega)).trans (p4 j hj)
    have b1 : zl_B (uI s4 6 5 (mI s4 6 5 + 1)) := b4
    have r1 : ∀ a k, mR (uI s4 6 5 (mI s4 6 5 + 1)) a k = mR sr a k := fun a k => (congrFun (congrFun p2 a) k).trans (congrFun (congrFun d2 a) k)
    have n1 : mN (uI s4 6 5 (mI s4 6 5 + 1)) = mN s := (p1.trans d1).trans n0
    have eK : f_Wk_works s = some (0, uI s4 6 5 (mI s4 6 5 + 1)) := by
      unfold f_Wk_works
      rw [f_ck_of hR.b, f_bd_of e0, if_pos rfl, f_ck_of b0, f_bd_of e3, f_ck_of b3, f_bd_of eFA]
    generalize uI s4 6 5 (mI s4 6 5 + 1) = s1 at *
    -- the model
    obtain ⟨m1, m2, m3⟩ := hM0 s1 b1 (fun a k ha => (w2 a k (by omega) (by omega) (by omega)).trans (fI a k (by omega) (by omega)))
    have hM := m_readsAll (T := tpT V) (s := uI s1 46 0 0) b1 hn m1 m2 m3 hcb
    rw [hr] at hM
    obtain ⟨τ2, sm, e2, f2, ms2, l2⟩ := hM
    have bm : zl_B sm := f2.b b1
    have hz : LZ z := ⟨g1.1.1, g4, by omega, fun i hi => (g5 i hi).2.1⟩
    obtain ⟨s2, e5, f5, mz⟩ := m_keep2 ms2 hz g1.1.2
    have b2 : zl_B s2 := f5.b bm
    have fm : ∀ a k, ¬ wkA a k → ¬ rdA a k → ¬ (a = 46 ∧ k = 0) → mI s2 a k = mI s1 a k := fun a k g g2 g3 => (f5.2.1 a k g).trans ((f2.2.1 a k g2).trans (mI_ne _ _ g3))
    have hlo : ∀ a k, a < 46 → mI s2 a k = mI s1 a k := fun a k ha => fm a k (by unfold wkA; omega) (by unfold rdA qA; omega) (by omega)
    have h81 : ∀ a k, 74 ≤ a ∨ a = 71 ∨ a = 72 ∨ a = 47 → mI s2 a k = mI s1 a k := fun a k ha => fm a k (by unfold wkA; omega) (by unfold rdA qA; omega) (by omega)
    have hR2 : ∀ a k, mR s2 a k = mR s1 a k := fun a k => (f5.r a k).trans (f2.r a k)
    have l21 : mI s2 46 1 = 0 := (f5.2.1 46 1 (by unfold wkA; omega)).trans l2
    have eM : f_Mo_works s1 = some (0, s2) := by
      have q22 : mI sm 46 22 = nI z.e.np := ms2.1.2.1.1
      have q23 : mI (uI sm 46 10 (nI z.e.np)) 46 23 = nI z.e.nt := (mI_ne _ _ (by omega)).trans ms2.1.2.1.2.1
      have q24 : mI (uI (uI sm 46 10 (nI z.e.np)) 46 11 (nI z.e.nt)) 46 24 = nI z.ln := (mI_ne _ _ (by omega)).trans ((mI_ne _ _ (by omega)).trans ms2.2.2.1)
      unfold f_Mo_works
      rw [f_ck_of b1]
      refine (f_bd_of e2).trans ?_
      rw [if_neg (show ¬ (1 : Int32) = 0 by decide), f_ck_of bm]
      show f_Mo_works_h43 zl_fl 0 (uI (uI (uI sm 46 10 (mI sm 46 22)) 46 11 (mI (uI sm 46 10 (mI sm 46 22)) 46 23)) 46 12 (mI (uI (uI sm 46 10 (mI sm 46 22)) 46 11 (mI (uI sm 46 10 (mI sm 46 22)) 46 23)) 46 24)) = _
      rw [q22, q23, q24]
      exact e5
    obtain ⟨z10, z11, z12, z49, z50, z50b, z51, z68, z69, z45, z46, z47⟩ := mz
    have nR : ∀ a k, ¬ (a = 42 ∧ k = 10) → mR s2 a k = mR s a k := fun a k g => (hR2 a k).trans ((r1 a k).trans (fR a k g))
    have hL : mL s2 46 53 = mL s 46 53 := (f5.2.2 46 53 (by unfold wkB; omega)).trans ((f2.2.2 46 53 (by unfold qB; omega)).trans ((w3 46 53 (by decide)).trans (fL 46 53 (by omega) (by decide))))
    have eW : ∀ a k, ¬ (a = 46 ∧ k = 53) → sW V s2 a k = mI s2 a k := fun a k g => if_neg g
    have e53 : sW V s2 46 53 = V 46 53 := if_pos ⟨rfl, rfl⟩
    have ep : pN (sW V s2) = z.e.np := by unfold pN; rw [eW 46 10 (by omega), z10, nI_clamp (by have := g1.1.1; omega)]
    have et : tN (sW V s2) = z.e.nt := by unfold tN; rw [eW 46 11 (by omega), z11, nI_clamp (by have := g1.1.2; omega)]
    have ek : kN (sW V s2) = z.ln := by unfold kN; rw [eW 46 12 (by omega), z12, nI_clamp (by omega)]
    have s0 : ∀ a k, a = 71 ∨ a = 72 ∨ a = 76 ∨ a = 77 ∨ a = 79 ∨ a = 47 → mI s2 a k = V a k := fun a k ha => (h81 a k (by omega)).trans ((w2 a k (by omega) (by omega) (by omega)).trans ((fI a k (by omega) (by omega)).trans (hR.e a k (by rcases ha with rfl | rfl | rfl | rfl | rfl | rfl <;> simp [lgM]))))
    have hW' : WV (sW V s2) := by
      refine ⟨⟨?_, by rw [ep]; exact g1.1.1⟩, ⟨?_, by rw [et]; exact g1.1.2⟩, ⟨?_, by rw [ek]; exact g4⟩, fun p hp => ?_, fun k hk => ?_, fun k hk => ?_, fun t ht => ?_, ?_, ?_, ?_⟩
      · rw [eW 46 10 (by omega), ep]; exact z10
      · rw [eW 46 11 (by omega), et]; exact z11
      · rw [eW 46 12 (by omega), ek]; exact z12
      · rw [ep] at hp
        have h3 := g3 p hp
        have es : sN (sW V s2) p = z.stp p := by unfold sN; rw [eW 49 p (by omega), z49 p hp, nI_clamp (by omega)]
        rw [es, eW 49 p (by omega)]
        exact ⟨z49 p hp, h3⟩
      · rw [eW 50 k (by omega), z50 k hk]
        by_cases c : k % 4 = 0
        · rw [if_pos c]; exact ⟨0, Nat.zero_le _, rfl⟩
        · rw [if_neg c]; exact ⟨z.cst k, g2 k, rfl⟩
      · rw [ek] at hk
        have h7 := (g5 k hk).2.2
        rw [eW 51 k (by omega), eW 52 k (by omega), (z51 k hk).1, (z51 k hk).2]
        exact ⟨⟨_, by omega, rfl⟩, ⟨_, by omega, rfl⟩⟩
      · obtain ⟨y1, y2, y3⟩ := z69 t ht
        obtain ⟨-, -, o3, o4, -⟩ := hW.2.2.2.2.2.2.1 t ht
        rw [eW 69 t (by omega), eW 70 t (by omega), eW 71 t (by omega), eW 72 t (by omega), eW 73 t (by omega), y1, y2, y3, s0 71 t (by omega), s0 72 t (by omega)]
        exact ⟨⟨0, Nat.zero_le _, rfl⟩, ⟨1, by decide, rfl⟩, o3, o4, Or.inl rfl⟩
      · rw [eW 46 45 (by omega), z45]; exact ⟨0, Nat.zero_le _, rfl⟩
      · rw [eW 46 46 (by omega), z46]; exact ⟨0, Nat.zero_le _, rfl⟩
      · rw [eW 46 47 (by omega), z47]; exact ⟨0, Nat.zero_le _, rfl⟩
    have t1 : TV (sW V s2) (vT sr 31) := by
      refine ⟨⟨?_, ?_, ?_, ?_, ?_, ?_⟩, fun p hp => ?_, fun k hk => ?_, fun l hl => ?_, fun t ht => ?_, ?_⟩
      · rw [eW 46 10 (by omega), z10]; exact v310
      · rw [eW 46 11 (by omega), z11]; exact v311
      · rw [eW 46 12 (by omega), z12]; exact co0.1
      · rw [eW 46 46 (by omega), z46]; exact v31 3 (by decide) (by decide)
      · rw [eW 46 47 (by omega), z47]; exact v31 4 (by decide) (by decide)
      · rw [eW 46 45 (by omega), z45]; exact v31 5 (by decide) (by decide)
      · rw [ep] at hp
        rw [eW 49 p (by omega), z49 p hp]
        exact co0.2.1 p hp
      · rw [eW 50 k (by omega), z50 k hk]
        exact cc0 k hk
      · rw [ek] at hl
        have h7 := (g5 l hl).2.2
        rw [eW 51 l (by omega), eW 52 l (by omega), (z51 l hl).1, (z51 l hl).2, show nI (z.lw l / 16) <<< (4 : Int32) = nI (z.lw l / 16 * 16) from pk_shlN _ 4 (by decide) (by omega), nI_or, lw_or _ h7]
        exact co0.2.2.1 l hl
      · obtain ⟨y1, y2, y3⟩ := z69 t ht
        obtain ⟨u1, u2, u3, u4⟩ := v37 t ht
        rw [eW 69 t (by omega), eW 70 t (by omega), eW 73 t (by omega), y1, y2, y3]
        exact ⟨u1, u2, Or.inl ⟨rfl, u4⟩⟩
      · intro l hl q hq t htb h1 h2
        rw [ek] at hl
        rw [ep] at hq
        have h256 := p4_le g1.1.1
        have hmo := cps_mo (la := z.la) (show l + 1 ≤ z.ln from hl)
        have e9 : cps z.la (l + 1) = cps z.la l + (z.la l).1.length := rfl
        obtain ⟨t2, et2, kt2⟩ := k_line (s := t) (g5 l hl).1 (l := l) (q := q) (c := cps z.la l) (by omega) (by omega) htb ((h1 l (by omega)).trans (co0.2.2.2.1 l (by omega))) ((h1 (l + 1) (by omega)).trans (co0.2.2.2.1 (l + 1) hl)) (by omega) (HC_cg (fun k hk => h2 _ (by omega)) (co0.2.2.2.2 l hl))
        refine ⟨t2, ?_, kt2⟩
        rw [eW 68 _ (by omega), z68 l hl q hq]
        exact et2
    have hag : mI s2 6 5 = nI (ageN s + 1) := (hlo 6 5 (by decide)).trans v65
    have hag2 : ageN s2 = ageN s + 1 := by
      unfold ageN at hag hA ⊢
      rw [hag, nI_clamp (by omega)]
    refine ⟨0, s1, s2, sW V s2, eK, eM, ⟨⟨b2.1, b2.2, hW', fun a k hk => ?_, ?_⟩, ⟨⟨b2, WV_eqW hW' kW_eq, TV_ask.mpr ?_, ?_, Or.inl kW_39, ⟨10, by decide, kW_39⟩, fun k => ?_⟩, fun q hq h18 => ?_, ?_, fun q hq => ?_⟩, ?_, ?_, ?_, ?_, ?_, ?_⟩, b1, fun k => ⟨(w2 0 k (by omega) (by omega) (by omega)).trans (fI 0 k (by omega) (by omega)), (hlo 0 k (by omega)).trans ((w2 0 k (by omega) (by omega) (by omega)).trans (fI 0 k (by omega) (by omega)))⟩⟩
    · refine (eW a k (fun q => ?_)).symm
      rw [q.1, q.2] at hk
      exact absurd hk (by decide)
    · rw [hL, e53]; exact hR.2.2.2.2
    · obtain ⟨c0, c1, c2, c3, c4, c5, c6, c7, c8, c9⟩ := d5
      have t2 := TV_cp (s' := s1) (a0 := 7) hW' t1 ⟨fun k hk => (w1 7 _ (by omega) (by omega)).trans (c0 k hk), fun k hk => (w1 8 _ (by omega) (by omega)).trans (c1 k hk), fun k hk => (w1 9 _ (by omega) (by omega)).trans (c2 k hk), fun k hk => (w1 10 _ (by omega) (by omega)).trans (c3 k hk), fun k hk => (w1 11 _ (by omega) (by omega)).trans (c4 k hk), fun k hk => (w1 12 _ (by omega) (by omega)).trans (c5 k hk), fun k hk => (w1 13 _ (by omega) (by omega)).trans (c6 k hk), fun k hk => (w1 14 _ (by omega) (by omega)).trans (c7 k hk), fun k hk => (w1 15 _ (by omega) (by omega)).trans (c8 k hk), fun k hk => (w1 16 _ (by omega) (by omega)).trans (c9 k hk)⟩
      exact TV_cg t2 (fun j hj => funext fun k => hlo (7 + j) k (by omega))
    · rw [hlo 6 7 (by omega), w2 6 7 (by omega) (by omega) (by omega), fI 6 7 (by omega) (by omega), hT.1.2.2.2.1]
      exact (kW_39 : askW V 46 39 = 10).trans (kW_39 : askW (sW V s2) 46 39 = 10).symm
    · rw [hlo 1 k (by omega), w2 1 k (by omega) (by omega) (by omega), fI 1 k (by omega) (by omega)]; exact hT.1.2.2.2.2.2.2 k
    · exfalso
      have h4 := p4_le hW'.1.2
      rw [ak_p] at hq
      obtain ⟨f, e, hf⟩ := hT.2.2.2 q (by omega)
      rw [hlo 18 q (by omega), w2 18 q (by omega) (by omega) (by omega), fI 18 q (by omega) (by omega), e, hag] at h18
      have hf2 : f ≤ ageN s := hf
      rw [nI_eq (by omega) (by omega)] at h18
      omega
    · rw [hag, nI_clamp (by omega)]
    · obtain ⟨f, e, hf⟩ := hT.2.2.2 q hq
      have hf2 : f ≤ ageN s := hf
      refine ⟨f, ?_, ?_⟩
      · rw [hlo 18 q (by omega), w2 18 q (by omega) (by omega) (by omega), fI 18 q (by omega) (by omega)]; exact e
      · rw [hag, nI_clamp (by omega)]; omega
    · exact PL_new hW' (fun x hx => (hlo 45 x (by omega)).trans (v45 x hx))
    · rw [hag2]; omega
    · refine ⟨⟨?_, ?_⟩, fun k hk => ?_, fun k hk => ?_⟩
      · rw [hlo 42 2 (by omega), w2 42 2 (by omega) (by omega) (by omega), l0, eW 46 1 (by omega), l21]
      · rw [eW 46 1 (by omega), l21]; exact ⟨0, Nat.zero_le _, rfl⟩
      · rw [hlo 43 k (by omega), w2 43 k (by omega) (by omega) (by omega), fI 43 k (by omega) (by omega), eW 47 k (by omega), s0 47 k (by omega)]
        exact hta.2.1 k hk
      · rw [eW 46 1 (by omega), l21] at hk
        exact absurd hk (Nat.not_lt_zero _)
    · have hk := RK_g (s' := s2) hma (f5.1.1.trans (f2.1.1.trans n1)) (fun a k ha => nR a k (by omega)) (fun a k ha => (h81 a k (by omega)).trans ((w2 a k (by omega) (by omega) (by omega)).trans (fI a k (by omega) (by omega))))
      refine ⟨fun m hm9 => ?_, hk.2⟩
      rw [eW 76 m (by omega), s0 76 m (by omega), mkW_x (V := V) (V' := sW V s2) (m := m) (fun k _ _ => (eW 77 k (by omega)).trans (s0 77 k (by omega))) (fun k _ _ => (eW 79 k (by omega)).trans (s0 79 k (by omega)))]
      exact hk.1 m hm9
    · refine ⟨(hlo 35 0 (by omega)).trans ((w2 35 0 (by omega) (by omega) (by omega)).trans (f35.trans hst.1)), fun k hk => ?_⟩
      rw [hlo 33 k (by omega), w2 33 k (by omega) (by omega) (by omega), eW 50 (16 + k) (by omega), z50b k hk, cc0 k hk]
      exact ⟨rfl, z.cst k, g2 k, rfl⟩
    · intro k
      rw [hlo 3 k (by omega), w2 3 k (by omega) (by omega) (by omega), fI 3 k (by omega) (by omega)]
      exact hsg k
theorem lc_works (R23 : Int32 → Sg → Option (Int32 × Sg)) (hR : ∀ s2 V2, RC V2 (i + 1) s2 → SC L s2 → okx P (R23 (nI (7 * (i + 1))) s2)) (h : RC V i s) (hs : SC L s) (hi : 7 * i + 7 ≤ L) (hL : L ≤ 3584) : okx P (f_La_law_b343 R23 (nI (7 * i)) s) := by
  obtain ⟨r, s1, s2, V2, e1, e2, r2, b1, k0⟩ := works_RC h (by omega)
  have c7 : nI (7 * i) + 7 = nI (7 * (i + 1)) := nI_add (7 * i) 7
  unfold f_La_law_b343 f_La_law_b1966
  rw [f_ck_of h.1.b, f_bd_of e1, f_ck_of b1, f_bd_of e2, if_pos rfl, c7]
  exact hR s2 V2 r2 ((k0 4000).2.trans hs)
end
