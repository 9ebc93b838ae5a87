/-! mark: class and model stay alike -/
section
variable {V V' : Vw} {s s' : Sg} {i L : Nat} {P : Int32 → Sg → Prop}
theorem lg_81 {a k : Nat} (h : lgM a k = true) : 46 ≤ a ∧ a < 80 := by
  simp only [lgM, Bool.or_eq_true, Bool.and_eq_true, beq_iff_eq, decide_eq_true_eq] at h
  omega
theorem kp_lg {i : Nat} (hi : i < 2105) : lgM (kp i).1 (kp i).2 = true := by
  have h := kp_s (a := (kp i).1) (k := (kp i).2) hi rfl
  simp only [lgM, Bool.or_eq_true, Bool.and_eq_true, beq_iff_eq, decide_eq_true_eq]
  omega
theorem KT_nw (h : KT (askW V) s) (hW' : WV V') (hv : vSm V V') (hb : zl_B s')
    (hf : ∀ b k, (b = 1 ∨ b = 6 ∨ (8 ≤ b ∧ b ≤ 12) ∨ b = 17 ∨ b = 18 ∨ (b = 7 ∧ k < 3)) → mI s' b k = mI s b k)
    (h0 : mI s' 7 3 = V' 46 46 ∧ mI s' 7 4 = V' 46 47 ∧ mI s' 7 5 = V' 46 45) (h5 : tvO V' (vT s' 7)) : KT (askW V') s' := by
  obtain ⟨⟨b, w, t, h7, h6, h4, ho⟩, hr, hg⟩ := h
  refine ⟨⟨hb, WV_eqW hW' kW_eq, TV_ask.mpr (TV_new (TV_ask.mp t) hv (fun j k hjk => hf (7 + j) k (by omega)) h0 h5), ?_, Or.inl kW_39, ⟨10, by decide, kW_39⟩, fun k => (hf 1 k (by omega)).trans (ho k)⟩, ?_, ?_⟩
  · rw [hf 6 7 (by omega), h7]; exact (kW_39 : askW V 46 39 = 10).trans (kW_39 : askW V' 46 39 = 10).symm
  · intro q hq h18 t ht u hu
    rw [ak_p, vSm_pN hv, ← ak_p V] at hq hu
    rw [ak_t, vSm_tN hv, ← ak_t V] at ht
    rw [hf 18 q (by omega), hf 6 5 (by omega)] at h18
    rw [hf 17 _ (by omega), sWo_new hv]
    exact hr q hq h18 t ht u hu
  · unfold AGE
    rw [hf 6 5 (by omega)]
    refine ⟨hg.1, fun q hq => ?_⟩
    rw [hf 18 q (by omega)]
    exact hg.2 q hq
/-- the world when a mark is laid -/
def lyW (V : Vw) (s : Sg) : Vw := fun a k => if a = 76 ∨ a = 77 ∨ a = 79 then mI s a k else V a k
theorem ly_y {a k : Nat} (h : a = 76 ∨ a = 77 ∨ a = 79) : lyW V s a k = mI s a k := if_pos h
theorem ly_n {a k : Nat} (h : ¬ (a = 76 ∨ a = 77 ∨ a = 79)) : lyW V s a k = V a k := if_neg h
theorem m_mk {m : Nat} {x2 : Int32} (hm : m < 4) (hb : zl_B s) (h : h01 x2 m (uI s 46 0 0)) (hx : x2 = 0 ∨ ¬ mI s 76 m = 0) : ∃ s1, f_Mo_mark (nI m) x2 s = some (1, uI s1 76 m 1) ∧ zl_B s1 ∧ MV x2 m (uI s 46 0 0) s1 (fun _ => True) := by
  obtain ⟨s1, e, b1, h1⟩ := m_b29 hm (s := uI s 46 0 0) hb h
  refine ⟨s1, ?_, b1, h1⟩
  unfold f_Mo_mark
  refine ck_t hb ((f_bd_of (m_wi (s := uI s 46 0 0) (nI m) 0 3)).trans ?_)
  rw [wi_m hm, if_pos rfl, if_neg (show ¬ (1 : Int32) = 0 by decide)]
  by_cases c : x2 = 0
  · rw [if_pos c]; exact e
  · rw [if_neg c]
    refine ck_t hb (ck_t (vp_in_nI hm (by decide)) ?_)
    rw [nI_clamp (by omega), if_neg (by rw [mI_ne _ _ (by omega)]; exact hx.resolve_left c)]
    exact e
theorem mark_lay (h : RC V i s) {m : Nat} (hm : m < 4) : ∃ s1 s2 V', f_Wk_mark (nI m) 0 s = some (1, s1) ∧ f_Mo_mark (nI m) 0 s1 = some (1, s2) ∧ RC V' (i + 1) s2 ∧ zl_B s1 ∧ (∀ k, mI s1 0 k = mI s 0 k ∧ mI s2 0 k = mI s 0 k) := by
  obtain ⟨hR, hT, hP, hA, hta, hma, hst, hsg⟩ := h
  have hW := hR.w
  obtain ⟨s1, e1, b1, f81, ⟨j', hj'⟩, hle, j, r41, jle, rr, cpc, oth, oth2⟩ := k_lay hR.b hma hm
  have hsrc : ∀ i, i < 2105 → mI (uI s1 46 0 0) (kp i).1 (kp i).2 = V (kp i).1 (kp i).2 := fun i hi => by
    have hl := kp_lg hi
    have h1 := lg_81 hl
    rw [mI_ne _ _ (fun e => by rw [e.1, e.2] at hl; exact absurd hl (by decide)), (f81 _ (by omega) _).1]
    exact hR.e _ _ hl
  have hh : h01 0 m (uI s1 46 0 0) := by
    intro k hk
    have es : sr 0 m (54 + k) = kp (54 + k) := if_pos rfl
    rw [es, hsrc (54 + k) (by omega), kp_o (a := 73) (k := k) (by decide) hk (by omega)]
    exact (hW.2.2.2.2.2.2.1 k hk).2.2.2.2
  obtain ⟨s', e2, b2, mv⟩ := m_mk hm b1 hh (Or.inl rfl)
  have et : ∀ i, tg 0 m i = km m i := fun i => if_pos rfl
  have hkm : ∀ a k i, (a, k) = km m i → i < 2105 → (a = 77 ∧ 140 * m ≤ k ∧ k < 140 * m + 57) ∨ (a = 79 ∧ 2048 * m ≤ k ∧ k < 2048 * m + 2048) := by
    intro a k i e hi
    have h1 := congrArg Prod.fst e
    have h2 := congrArg Prod.snd e
    unfold km at h1 h2
    split at h1
    all_goals simp only [*, if_true, if_false] at h1 h2
    all_goals omega
  have fr : ∀ a k, ¬ ((a = 77 ∧ 140 * m ≤ k ∧ k < 140 * m + 57) ∨ (a = 79 ∧ 2048 * m ≤ k ∧ k < 2048 * m + 2048)) → ¬ (a = 46 ∧ k = 0) → ¬ (a = 76 ∧ k = m) → mI (uI s' 76 m 1) a k = mI s1 a k := fun a k h1 h2 h3 => by
    rw [mI_ne _ _ h3, mv.2.2.1 a k (fun i hi e => h1 (hkm a k i (by rw [e, et]) hi)), mI_ne _ _ h2]
  have hmv : ∀ i, i < 2105 → mI (uI s' 76 m 1) (km m i).1 (km m i).2 = V (kp i).1 (kp i).2 := fun i hi => by
    have h7 := km_77 m i
    have h9 := (mv.2.2.2 i hi).1 trivial
    rw [et, show sr 0 m i = kp i from if_pos rfl, hsrc i hi] at h9
    rw [mI_ne _ _ (by omega)]
    exact h9
  have n2 : mN (uI s' 76 m 1) = mN s1 := mv.1.1
  have g2 : (uI s' 76 m 1).2.2.1 = s1.2.2.1 := mv.1.2
  have r2 : ∀ a k, mR (uI s' 76 m 1) a k = mR s1 a k := fun a k => congrFun (congrFun g2 a) k
  have B2 : zl_B (uI s' 76 m 1) := b2
  have f46 : ∀ a k, a < 46 → mI (uI s' 76 m 1) a k = mI s a k := fun a k ha => (fr a k (by omega) (by omega) (by omega)).trans ((f81 a (by omega) k).1)
  generalize es2 : uI s' 76 m 1 = s2 at *
  have e76 : mI s2 76 m = 1 := by rw [← es2]; exact mI_at _ _ _ _
  have hTE : tE V (lyW V s2) := fun i hi => ly_n (by have := kp_77 hi; omega)
  have hW' : WV (lyW V s2) := WV_tE hTE hW
  have hTM : tE V (mkW (lyW V s2) m) := fun i hi => by
    rw [mk_kp _ _ hi, ly_y (by unfold km; split <;> simp)]
    exact hmv i hi
  have hL : mL s2 46 53 = mL s 46 53 := by
    rw [← es2]
    exact (mv.2.1 46 53 (by decide) (by decide)).trans ((f81 46 (by decide) 53).2)
  refine ⟨s1, s2, lyW V s2, e1, e2, ⟨⟨B2.1, B2.2, hW', fun a k hk => ?_, ?_⟩, ?_, ?_, ?_, ?_, ?_, ?_, ?_⟩, b1, fun k => ⟨(f81 0 (by decide) k).1, f46 0 k (by decide)⟩⟩
  · by_cases c : a = 76 ∨ a = 77 ∨ a = 79
    · exact (ly_y c).symm
    · rw [ly_n c, fr a k (by omega) (fun e => by rw [e.1, e.2] at hk; exact absurd hk (by decide)) (by omega), (f81 a (by have := lg_81 hk; omega) k).1]
      exact hR.e a k hk
  · rw [hL, ly_n (by decide)]; exact hR.2.2.2.2
  · refine KT_nw hT hW' (fun b k hb => ly_n (by omega)) B2 (fun b k hb => f46 b k (by omega)) ?_ ?_
    · rw [f46 7 3 (by decide), f46 7 4 (by decide), f46 7 5 (by decide), ly_n (by decide), ly_n (by decide), ly_n (by decide)]
      exact T0 hT
    · intro u hu
      have h9 := TO hT u hu
      have hvt : ∀ j, j < 10 → vT s2 7 j u = vT s 7 j u := fun j hj => f46 (7 + j) u (by omega)
      rw [hvt 6 (by decide), hvt 7 (by decide), hvt 8 (by decide), hvt 9 (by decide), ly_n (by decide), ly_n (by decide), ly_n (by decide), ly_n (by decide), ly_n (by decide)]
      exact h9
  · intro x hx
    have eo : sOws (lyW V s2) = sOws V := by
      unfold sOws pN tN
      rw [ly_n (by decide), ly_n (by decide)]
    rw [eo] at hx
    rw [f46 45 x (by decide), plv_g hW (fun b j h1 h2 h3 => ly_n (by omega))]
    exact hP x hx
  · have : ageN s2 = ageN s := by unfold ageN; rw [f46 6 5 (by decide)]
    rw [this]; omega
  · obtain ⟨⟨h1, h2⟩, h3, h4⟩ := hta
    refine ⟨⟨?_, by rw [ly_n (by decide)]; exact h2⟩, fun k hk => ?_, fun k hk => ?_⟩
    · rw [f46 42 2 (by decide), ly_n (by decide)]; exact h1
    · rw [f46 43 k (by decide), ly_n (by decide)]; exact h3 k hk
    · rw [ly_n (by decide)] at hk ⊢; exact h4 k hk
  · obtain ⟨h1, h2, -⟩ := hma
    refine ⟨fun m' hm' => ?_, fun m' m'' a k1 k2 k3 k4 => ?_, ⟨j', by rw [n2]; exact hj'⟩⟩
    · by_cases c : m' = m
      · subst c
        right
        refine ⟨(ly_y (by decide)).trans e76, WV_tE hTM hW, j, by rw [r2]; exact r41, by rw [n2]; exact jle, fun i hi => by rw [r2]; exact rr i hi, ?_⟩
        have t1 : TV (mkW (lyW V s2) m') (vT s 7) := TV_tE hTM hW (TV_ask.mp hT.1.2.2.1)
        have t2 := TV_cp (WV_tE hTM hW) t1 cpc
        exact TV_cg t2 (fun i hi => funext fun k => fr (81 + 10 * j + i) k (by omega) (by omega) (by omega))
      · have ex : mkW (lyW V s2) m' = mkW V m' := mkW_x (fun k k1 k2 => by
            rw [ly_y (by decide), fr 77 k (by omega) (by omega) (by omega), (f81 77 (by decide) k).1]
            exact hR.e 77 k rfl) (fun k k1 k2 => by
            rw [ly_y (by decide), fr 79 k (by omega) (by omega) (by omega), (f81 79 (by decide) k).1]
            exact hR.e 79 k rfl)
        have e6 : lyW V s2 76 m' = V 76 m' := by
          rw [ly_y (by decide), fr 76 m' (by omega) (by omega) (by omega), (f81 76 (by decide) m').1]
          exact hR.e 76 m' rfl
        have o1 := oth m' hm' c
        rw [e6, ex, r2, o1.1]
        rcases h1 m' hm' with h9 | ⟨q1, q2, j2, q3, q4, q5, q6⟩
        · exact Or.inl h9
        · have hj2 : j2 ≠ j := fun e => o1.2 (by rw [q3, e])
          obtain ⟨o2, o3⟩ := oth2 j2 hj2 q4
          refine Or.inr ⟨q1, q2, j2, q3, by rw [n2]; omega, fun i hi => by rw [r2, o3]; exact q5 i hi, TV_cg q6 (fun i hi => funext fun k => ?_)⟩
          exact (fr (81 + 10 * j2 + i) k (by omega) (by omega) (by omega)).trans (o2 i hi k)
    · rw [r2] at k4 ⊢
      by_cases c1 : m' = m
      · rw [c1, r41] at k4
        have o1 := oth m'' k2 (fun e => k3 (by rw [c1, e]))
        rw [o1.1, ← k4]
        exact o1.2
      · have o1 := oth m' k1 c1
        rw [o1.1] at k4
        by_cases c2 : m'' = m
        · rw [c2, r41, ← k4]
          exact fun e => o1.2 e.symm
        · rw [(oth m'' k2 c2).1]
          exact h2 m' m'' a k1 k2 k3 k4
  · refine ⟨(f46 35 0 (by decide)).trans hst.1, fun k hk => ?_⟩
    obtain ⟨h1, h2⟩ := hst.2 k hk
    rw [f46 33 k (by decide), ly_n (by decide)]
    exact ⟨h1, h2⟩
  · intro k
    rw [f46 3 k (by decide)]
    exact hsg k
/-- .. and when it is gone back to -/
noncomputable def bkW (V : Vw) (m : Nat) : Vw := fun a k => @ite _ (∃ i, i < 2105 ∧ (a, k) = kp i) (Classical.propDecidable _) (mkW V m a k) (V a k)
theorem bk_y {m i : Nat} (hi : i < 2105) : bkW V m (kp i).1 (kp i).2 = mkW V m (kp i).1 (kp i).2 := if_pos ⟨i, hi, rfl⟩
theorem bk_n {m a k : Nat} (h : ¬ ((a = 46 ∧ ((10 ≤ k ∧ k ≤ 12) ∨ (45 ≤ k ∧ k ≤ 47))) ∨ (a = 49 ∧ k < 4) ∨ (a = 50 ∧ k < 16) ∨ (a = 51 ∧ k < 8) ∨ (a = 52 ∧ k < 8) ∨ ((69 ≤ a ∧ a ≤ 73) ∧ k < 3) ∨ (a = 68 ∧ k < 2048))) : bkW V m a k = V a k := if_neg (fun ⟨_, hi, e⟩ => h (kp_s hi e))
theorem mark_back (h : RC V i s) (hi5 : i ≤ 512) {m : Nat} {x2 : Int32} (hx : ¬ x2 = 0) (hm : m < 4) : ∃ r s1 s2 V', f_Wk_mark (nI m) x2 s = some (r, s1) ∧ f_Mo_mark (nI m) x2 s1 = some (r, s2) ∧ RC V' (i + 1) s2 ∧ zl_B s1 ∧ (∀ k, mI s1 0 k = mI s 0 k ∧ mI s2 0 k = mI s 0 k) := by
  rcases k_back hx h.1.b h.2.2.2.2.2.1 hm with ⟨z, e1⟩ | ⟨z, s1, j, e1, b1, r41, cpc, n1, g1, fI, fL, a1, p1⟩
  · have hM : ∀ s1, RM V s1 → QM V s1 (f_Mo_mark (nI m) x2 s1) 0 0 := by
      intro s1 h1
      obtain ⟨h2, f2, t2⟩ := h1.no
      refine ⟨_, V, ?_, h2, f2, fun _ _ _ => rfl, t2⟩
      unfold f_Mo_mark
      refine ck_t h1.b ((f_bd_of (m_wi (s := uI s1 46 0 0) (nI m) 0 3)).trans ?_)
      rw [wi_m hm, if_pos rfl, if_neg (show ¬ (1 : Int32) = 0 by decide), if_neg hx]
      refine ck_t h2.b (ck_t (vp_in_nI hm (by decide)) ?_)
      rw [nI_clamp (by omega), h2.e 76 m rfl, if_pos z]
    obtain ⟨s1, s2, V2, e3, e4, r2, b1, b2, t2, -, -, k0⟩ := both (E := fun _ => True) h ⟨s, e1, h.2.1, ⟨⟨rfl, rfl⟩, fun _ _ _ => rfl, fun _ _ _ _ => rfl⟩, h.2.2.1, by omega, trivial⟩ hM
    exact ⟨0, s1, s2, V2, e3, e4, r2, b1, k0⟩
  obtain ⟨hR, hT, hP, hA, hta, hma, hst, hsg⟩ := h
  have hW := hR.w
  obtain ⟨h1, h2, h3⟩ := hma
  obtain ⟨-, wm, j0, q3, q4, q5, q6⟩ := (h1 m hm).resolve_left (fun e => by rw [e.1] at z; exact absurd z (by decide))
  obtain rfl : j0 = j := by
    rw [q3] at r41
    have := Option.some.inj r41
    omega
  have hsrc : ∀ i, i < 2105 → mI (uI s1 46 0 0) (km m i).1 (km m i).2 = V (km m i).1 (km m i).2 := fun i hi => by
    have h7 := km_77 m i
    have hl : lgM (km m i).1 (km m i).2 = true := by unfold km; split <;> rfl
    have h8 := lg_81 hl
    rw [mI_ne _ _ (by omega), fI _ _ (by omega) (by omega) (by omega)]
    exact hR.e _ _ hl
  have hmk : ∀ i, i < 2105 → V (km m i).1 (km m i).2 = mkW V m (kp i).1 (kp i).2 := fun i hi => (mk_kp V m hi).symm
  have hh : h01 x2 m (uI s1 46 0 0) := by
    intro k hk
    have es : sr x2 m (54 + k) = km m (54 + k) := if_neg hx
    rw [es, hsrc (54 + k) (by omega), hmk (54 + k) (by omega), kp_o (a := 73) (k := k) (by decide) hk (by omega)]
    exact (wm.2.2.2.2.2.2.1 k hk).2.2.2.2
  have z1 : mI s1 76 m = 1 := by rw [fI 76 m (by omega) (by omega) (by omega), hR.e 76 m rfl]; exact z
  obtain ⟨s', e2, b2, mv⟩ := m_mk hm b1 hh (Or.inr (by rw [z1]; decide))
  have et : ∀ i, tg x2 m i = kp i := fun i => if_neg hx
  have fr : ∀ a k, (∀ i, i < 2105 → (a, k) ≠ kp i) → ¬ (a = 46 ∧ k = 0) → mI (uI s' 76 m 1) a k = mI s1 a k := fun a k q1 q2 => by
    by_cases c : a = 76 ∧ k = m
    · rw [c.1, c.2, mI_at, z1]
    · rw [mI_ne _ _ c, mv.2.2.1 a k (fun i hi e => q1 i hi (by rw [e, et])), mI_ne _ _ q2]
  have hmv : ∀ i, i < 2105 → mI (uI s' 76 m 1) (kp i).1 (kp i).2 = mkW V m (kp i).1 (kp i).2 := fun i hi => by
    have h7 := kp_77 hi
    have h9 := (mv.2.2.2 i hi).1 trivial
    rw [et, show sr x2 m i = km m i from if_neg hx, hsrc i hi, hmk i hi] at h9
    rw [mI_ne _ _ (by omega)]
    exact h9
  have n2 : mN (uI s' 76 m 1) = mN s := mv.1.1.trans n1
  have g2 : (uI s' 76 m 1).2.2.1 = s.2.2.1 := mv.1.2.trans g1
  have B2 : zl_B (uI s' 76 m 1) := b2
  have hnk : ∀ a k i, (a < 46 ∨ 74 ≤ a) → i < 2105 → (a, k) ≠ kp i := fun a k i ha hi e => by
    have := kp_s hi e
    omega
  have f46 : ∀ a k, (a < 46 ∨ 74 ≤ a) → mI (uI s' 76 m 1) a k = mI s1 a k := fun a k ha => fr a k (fun i hi => hnk a k i ha hi) (by omega)
  have hL : mL (uI s' 76 m 1) 46 53 = mL s 46 53 := (mv.2.1 46 53 (by decide) (by decide)).trans (fL 46 53 (by decide))
  generalize uI s' 76 m 1 = s2 at *
  have hTE : tE (mkW V m) (bkW V m) := fun i hi => bk_y hi
  have hW' : WV (bkW V m) := WV_tE hTE wm
  have f0 : ∀ a k, (a < 46 ∨ 74 ≤ a) → ¬ (7 ≤ a ∧ a < 17) → a ≠ 45 → ¬ (a = 6 ∧ k = 5) → mI s2 a k = mI s a k := fun a k q0 q1 q2 q3 => (f46 a k q0).trans (fI a k q1 q2 q3)
  have hag : mI s2 6 5 = nI (ageN s + 1) := by
    rw [f46 6 5 (by omega), a1, hT.2.2.1, nI_1]
    rfl
  have hag2 : ageN s2 = ageN s + 1 := by
    unfold ageN at hag hA ⊢
    rw [hag, nI_clamp (by omega)]
  refine ⟨1, s1, s2, bkW V m, e1, e2, ⟨⟨B2.1, B2.2, hW', fun a k hk => ?_, ?_⟩, ⟨⟨B2, WV_eqW hW' kW_eq, TV_ask.mpr ?_, ?_, Or.inl kW_39, ⟨10, by decide, kW_39⟩, fun k => ?_⟩, fun q hq h18 => ?_, ?_, fun q hq => ?_⟩, ?_, ?_, ?_, ?_, ?_, ?_⟩, b1, fun k => ⟨fI 0 k (by omega) (by omega) (by omega), f0 0 k (by omega) (by omega) (by omega) (by omega)⟩⟩
  · by_cases c : ∃ i, i < 2105 ∧ (a, k) = kp i
    · obtain ⟨i, hi, e⟩ := c
      have ea : a = (kp i).1 := congrArg Prod.fst e
      have ek : k = (kp i).2 := congrArg Prod.snd e
      rw [ea, ek, bk_y hi]
      exact hmv i hi
    · have l8 := lg_81 hk
      have : bkW V m a k = V a k := if_neg c
      rw [this, fr a k (fun i hi e => c ⟨i, hi, e⟩) (fun e => by rw [e.1, e.2] at hk; exact absurd hk (by decide)), fI a k (by omega) (by omega) (by omega)]
      exact hR.e a k hk
  · rw [hL, bk_n (by omega)]; exact hR.2.2.2.2
  · have t1 : TV (bkW V m) (vT s (81 + 10 * j0)) := TV_tE hTE wm q6
    have t2 := TV_cp hW' t1 cpc
    exact TV_cg t2 (fun i hi => funext fun k => f46 (7 + i) k (by omega))
  · rw [f0 6 7 (by decide) (by decide) (by decide) (by decide), hT.1.2.2.2.1]
    exact (kW_39 : askW V 46 39 = 10).trans (kW_39 : askW (bkW V m) 46 39 = 10).symm
  · rw [f0 1 k (by omega) (by omega) (by omega) (by omega)]; exact hT.1.2.2.2.2.2.2 k
  · exfalso
    have h4 := p4_le hW'.1.2
    rw [ak_p] at hq
    obtain ⟨f, e, hf⟩ := hT.2.2.2 q (by omega)
    rw [f0 18 q (by omega) (by omega) (by omega) (by omega), e, hag] at h18
    have hf2 : f ≤ ageN s := hf
    rw [nI_eq (by omega) (by omega)] at h18
    omega
  · rw [hag, nI_clamp (by omega)]
  · obtain ⟨f, e, hf⟩ := hT.2.2.2 q hq
    have hf2 : f ≤ ageN s := hf
    refine ⟨f, ?_, ?_⟩
    · rw [f0 18 q (by omega) (by omega) (by omega) (by omega)]; exact e
    · rw [hag, nI_clamp (by omega)]; omega
  · exact PL_new hW' (fun x hx => (f46 45 x (by omega)).trans (p1 x hx))
  · rw [hag2]; omega
  · obtain ⟨⟨t1, t2⟩, t3, t4⟩ := hta
    refine ⟨⟨?_, by rw [bk_n (by omega)]; exact t2⟩, fun k hk => ?_, fun k hk => ?_⟩
    · rw [f0 42 2 (by decide) (by decide) (by decide) (by decide), bk_n (by omega)]; exact t1
    · rw [f0 43 k (by omega) (by omega) (by omega) (by omega), bk_n (by omega)]; exact t3 k hk
    · rw [bk_n (by omega)] at hk ⊢; exact t4 k hk
  · have hk := RK_f (s' := s2) ⟨h1, h2, h3⟩ ⟨n2, g2⟩ (fun a k ha => f0 a k (by omega) (by omega) (by omega) (by omega))
    refine ⟨fun m' hm' => ?_, hk.2⟩
    rw [bk_n (by omega), mkW_x (V := V) (V' := bkW V m) (m := m') (fun k _ _ => bk_n (by omega)) (fun k _ _ => bk_n (by omega))]
    exact hk.1 m' hm'
  · refine ⟨(f0 35 0 (by omega) (by omega) (by omega) (by omega)).trans hst.1, fun k hk => ?_⟩
    obtain ⟨t1, t2⟩ := hst.2 k hk
    rw [f0 33 k (by omega) (by omega) (by omega) (by omega), bk_n (by omega)]
    exact ⟨t1, t2⟩
  · intro k
    rw [f0 3 k (by omega) (by omega) (by omega) (by omega)]
    exact hsg k
theorem mark_RC (h : RC V i s) (hi5 : i ≤ 512) (x y : Int32) : ∃ r s1 s2 V', f_Wk_mark x y s = some (r, s1) ∧ f_Mo_mark x y s1 = some (r, s2) ∧ RC V' (i + 1) s2 ∧ zl_B s1 ∧ (∀ k, mI s1 0 k = mI s 0 k ∧ mI s2 0 k = mI s 0 k) := by
  cases hc : wi x 0 3 with
  | false =>
    obtain ⟨e1, hM⟩ := mark_out (V := V) (s := s) (y := y) hc
    obtain ⟨s1, s2, V2, e3, e4, r2, b1, b2, t2, -, -, k0⟩ := both (E := fun _ => True) h ⟨s, e1, h.2.1, ⟨⟨rfl, rfl⟩, fun _ _ _ => rfl, fun _ _ _ _ => rfl⟩, h.2.2.1, by omega, trivial⟩ hM
    exact ⟨0, s1, s2, V2, e3, e4, r2, b1, k0⟩
  | true =>
    obtain ⟨m, hm, rfl⟩ := wi_of hc
    by_cases c : y = 0
    · subst c
      obtain ⟨s1, s2, V2, h9⟩ := mark_lay h hm
      exact ⟨1, s1, s2, V2, h9⟩
    · exact mark_back h hi5 c hm
theorem lc_mark (R23 : Int32 → Sg → Option (Int32 × Sg)) (hR : ∀ s2 V2, RC V2 (i + 1) s2 → SC L s2 → okx P (R23 (nI (7 * (i + 1))) s2)) (h : RC V i s) (hs : SC L s) (hi : 7 * i + 7 ≤ L) (hL : L ≤ 3584) : okx P (f_La_law_b1888 R23 (nI (7 * i)) s) := by
  have c1 : nI (7 * i) + 1 = nI (7 * i + 1) := nI_add (7 * i) 1
  have d1 : (nI (7 * i + 1)).toNatClampNeg = 7 * i + 1 := nI_clamp (by omega)
  have v1 : vp_in (nI (7 * i + 1)) L := vp_in_nI (by omega) (by omega)
  have c2 : nI (7 * i) + 2 = nI (7 * i + 2) := nI_add (7 * i) 2
  have d2 : (nI (7 * i + 2)).toNatClampNeg = 7 * i + 2 := nI_clamp (by omega)
  have v2 : vp_in (nI (7 * i + 2)) L := vp_in_nI (by omega) (by omega)
  have c7 : nI (7 * i) + 7 = nI (7 * (i + 1)) := nI_add (7 * i) 7
  have eL : (nI L).toNatClampNeg = L := nI_clamp (by omega)
  have hs9 : mI s 0 4000 = nI L := hs
  have h0 := h.1.b
  have hcore : ∀ y : Int32, (∀ (s3 : Sg) (q : Int32 → Option (Int32 × Sg)), mI s3 0 (7 * i + 2) = mI s 0 (7 * i + 2) → (if mI s3 0 (7 * i + 2) = 0 then q 0 else q 1) = q y) → okx P (f_La_law_b1909 R23 (nI (7 * i)) (mI s 0 (7 * i + 1)) y s) := by
    intro y hy
    obtain ⟨r, s1, s2, V2, e1, e2, r2, b1, k0⟩ := mark_RC h (by omega) (mI s 0 (7 * i + 1)) y
    have k1 : ∀ k, mI s1 0 k = mI s 0 k := fun k => (k0 k).1
    unfold f_La_law_b1909
    refine ox_ck h0 (ox_bd e1 ?_)
    rw [k1 4000, hs9, eL, c1, c2, d1, d2]
    refine ox_ck v1 (ox_ck v2 ?_)
    rw [hy s1 (fun z => f_La_law_b1933 R23 (nI (7 * i)) r (mI s1 0 (7 * i + 1)) z s1) (k1 _), k1 (7 * i + 1)]
    unfold f_La_law_b1933 f_La_law_b1966
    refine ox_ck b1 (ox_bd e2 ?_)
    rw [if_pos rfl, c7]
    exact hR s2 V2 r2 ((k0 4000).2.trans hs)
  unfold f_La_law_b1888
  rw [hs9, eL, c1, c2, d1, d2]
  refine ox_ck v1 (ox_ck v2 ?_)
  by_cases c : mI s 0 (7 * i + 2) = 0
  · rw [if_pos c]
    exact hcore 0 (fun s3 q e => by rw [if_pos (e.trans c)])
  · rw [if_neg c]
    exact hcore 1 (fun s3 q e => by rw [if_neg (fun e9 => c (e.symm.trans e9))])
end
