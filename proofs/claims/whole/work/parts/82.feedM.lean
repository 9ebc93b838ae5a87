/-! feed: the model, and the law's call -/
section
variable {V : Vw} {s : Sg} {i L : Nat} {P : Int32 → Sg → Prop}
theorem WV_tp {V V' : Vw} (hW : WV V) (h : tpS V V') : WV V' := by
  have e : ∀ b k, ¬ (b = 47 ∨ (b = 46 ∧ k = 1)) → V' b k = V b k := h
  unfold WV pN tN kN sN at hW ⊢
  simp only [e 46 10 (by decide), e 46 11 (by decide), e 46 12 (by decide), e 46 45 (by decide), e 46 46 (by decide), e 46 47 (by decide), fun p => e 49 p (by omega), fun p => e 50 p (by omega), fun p => e 51 p (by omega), fun p => e 52 p (by omega), fun p => e 69 p (by omega), fun p => e 70 p (by omega), fun p => e 71 p (by omega), fun p => e 72 p (by omega), fun p => e 73 p (by omega)]
  exact hW
def wSel (a b c : Int64) (x : Nat) : Int64 := if x < 8 then a else if x < 16 then b else c
/-- the model takes them one by one, from the x-th on -/
def fdM (a b c : Int64) : Nat → Nat → Vw → Vw
  | 0, _, V => V
  | k + 1, x, V => fdM a b c k (x + 1) (fd1 V (bY (wSel a b c x) (x % 8)))
theorem m_feed_h (a b c : Int64) : ∀ (k x n : Nat) (V : Vw) (s : Sg), RM V s → tpOk V → x + k = 24 → k < n → ∃ s', f_Mo_feed_h8 n a b c (nI x) s = some (fdM a b c k x V 46 1, s') ∧ RM (fdM a b c k x V) s' ∧ FM s s' := by
  intro k
  induction k with
  | zero =>
    intro x n V s h ho hx hn
    obtain ⟨n, rfl⟩ : ∃ m, n = m + 1 := ⟨n - 1, by omega⟩
    obtain rfl : x = 24 := by omega
    refine ⟨s, ?_, h, FM.rf s⟩
    show f_Mo_feed_b8 _ _ _ _ _ _ = _
    unfold f_Mo_feed_b8 f_Mo_feed_b120
    rw [if_pos (by decide), f_ck_of h.b, h.e 46 1 rfl]
    rfl
  | succ k ih =>
    intro x n V s h ho hx hn
    obtain ⟨n, rfl⟩ : ∃ m, n = m + 1 := ⟨n - 1, by omega⟩
    have hi := fun V1 s1 (h1 : RM V1 s1) ho1 => ih (x + 1) n V1 s1 h1 ho1 (by omega) (by omega)
    have h39 : ∀ w : Int64, w = wSel a b c x → ∃ s', f_Mo_feed_b39 (f_Mo_feed_h8 n) a b c (nI x) w s = some (fdM a b c (k + 1) x V 46 1, s') ∧ RM (fdM a b c (k + 1) x V) s' ∧ FM s s' := by
      intro w hw
      have ev : Int64.toInt32 (((Int64.toUInt64 w >>> ((Int32.toInt64 (56 - (8 * (nI x &&& 7)))).toUInt64 &&& Int64.toUInt64 63)).toInt64) &&& 255) = bY (wSel a b c x) (x % 8) := by
        have := byte_eq w (x % 8) (Nat.mod_lt _ (by decide)) (x / 8) (by omega)
        rw [show 8 * (x / 8) + x % 8 = x by omega] at this
        rw [this, hw]
      have r1 : mI s 46 1 = V 46 1 := h.e 46 1 rfl
      have hskip : fd1 V (bY (wSel a b c x) (x % 8)) = V → ∃ s', f_Mo_feed_b114 (f_Mo_feed_h8 n) a b c (nI x) s = some (fdM a b c (k + 1) x V 46 1, s') ∧ RM (fdM a b c (k + 1) x V) s' ∧ FM s s' := by
        intro e
        obtain ⟨s1, e2, h2, f2⟩ := hi V s h ho
        have e9 : fdM a b c (k + 1) x V = fdM a b c k (x + 1) V := by
          show fdM a b c k (x + 1) (fd1 V _) = _
          rw [e]
        rw [e9]
        refine ⟨s1, ?_, h2, f2⟩
        unfold f_Mo_feed_b114
        rw [nI_1]
        exact e2
      have htake : ¬ 1000 ≤ V 46 1 → okS (bY (wSel a b c x) (x % 8)) = true → ∃ s', f_Mo_feed_b93 (f_Mo_feed_h8 n) a b c (nI x) (bY (wSel a b c x) (x % 8)) s = some (fdM a b c (k + 1) x V 46 1, s') ∧ RM (fdM a b c (k + 1) x V) s' ∧ FM s s' := by
        intro c1 c2
        have ho2 := fd1_ok ho (bY (wSel a b c x) (x % 8))
        obtain ⟨⟨m, hm, em⟩, -⟩ := ho
        have hm2 : m < 1000 := by
          rw [em] at c1
          exact Nat.lt_of_not_le fun h9 => c1 (nI_le (a := 1000) h9 (by omega))
        have eV : fd1 V (bY (wSel a b c x) (x % 8)) = vU (vU V 47 m (bY (wSel a b c x) (x % 8))) 46 1 (nI (m + 1)) := by
          unfold fd1
          rw [if_neg c1, if_pos c2, em, nI_clamp (by omega), nI_1]
        have hw1 : WV (vU V 47 m (bY (wSel a b c x) (x % 8))) := WV_tp h.w (fun b k hb => vU_ne _ _ (by omega))
        have h1 := h.lw 47 m (bY (wSel a b c x) (x % 8)) hw1 (by omega)
        have hw2 : WV (vU (vU V 47 m (bY (wSel a b c x) (x % 8))) 46 1 (nI (m + 1))) := WV_tp hw1 (fun b k hb => vU_ne _ _ (by omega))
        have h2 := h1.lw 46 1 (nI (m + 1)) hw2 (by decide)
        obtain ⟨s1, e2, h3, f3⟩ := hi _ _ h2 (by rw [← eV]; exact ho2)
        have e9 : fdM a b c (k + 1) x V = fdM a b c k (x + 1) (vU (vU V 47 m (bY (wSel a b c x) (x % 8))) 46 1 (nI (m + 1))) := by
          show fdM a b c k (x + 1) (fd1 V _) = _
          rw [eV]
        rw [e9]
        refine ⟨s1, ?_, h3, ((FM.uI s (a := 47) (k := m) _ (by omega)).trans (FM.uI _ (a := 46) (k := 1) _ (by omega))).trans f3⟩
        unfold f_Mo_feed_b93 f_Mo_feed_b114
        have et2 : mI (uI s 47 m (bY (wSel a b c x) (x % 8))) 46 1 = nI m := by rw [mI_ne _ _ (by omega), r1, em]
        rw [f_ck_of h.b, r1, em, f_ck_of (vp_in_nI hm2 (by decide)), nI_clamp (by omega)]
        simp only [et2, nI_1]
        exact e2
      unfold f_Mo_feed_b39
      show ∃ s', (f_ck (zl_B s) (if 1000 ≤ mI s 46 1 then f_Mo_feed_b114 (f_Mo_feed_h8 n) a b c (nI x) s else if Int64.toInt32 (((Int64.toUInt64 w >>> ((Int32.toInt64 (56 - (8 * (nI x &&& 7)))).toUInt64 &&& Int64.toUInt64 63)).toInt64) &&& 255) = 10 then f_Mo_feed_b93 (f_Mo_feed_h8 n) a b c (nI x) (Int64.toInt32 (((Int64.toUInt64 w >>> ((Int32.toInt64 (56 - (8 * (nI x &&& 7)))).toUInt64 &&& Int64.toUInt64 63)).toInt64) &&& 255)) s else if Int64.toInt32 (((Int64.toUInt64 w >>> ((Int32.toInt64 (56 - (8 * (nI x &&& 7)))).toUInt64 &&& Int64.toUInt64 63)).toInt64) &&& 255) < 32 then f_Mo_feed_b114 (f_Mo_feed_h8 n) a b c (nI x) s else if 126 < Int64.toInt32 (((Int64.toUInt64 w >>> ((Int32.toInt64 (56 - (8 * (nI x &&& 7)))).toUInt64 &&& Int64.toUInt64 63)).toInt64) &&& 255) then f_Mo_feed_b114 (f_Mo_feed_h8 n) a b c (nI x) s else f_Mo_feed_b93 (f_Mo_feed_h8 n) a b c (nI x) (Int64.toInt32 (((Int64.toUInt64 w >>> ((Int32.toInt64 (56 - (8 * (nI x &&& 7)))).toUInt64 &&& Int64.toUInt64 63)).toInt64) &&& 255)) s)) = _ ∧ _
      rw [ev, f_ck_of h.b, r1]
      by_cases c1 : 1000 ≤ V 46 1
      · rw [if_pos c1]
        exact hskip (by unfold fd1; rw [if_pos c1])
      · rw [if_neg c1]
        by_cases c2 : bY (wSel a b c x) (x % 8) = 10
        · rw [if_pos c2]
          exact htake c1 (by unfold okS; simp [c2])
        · rw [if_neg c2]
          by_cases c3 : bY (wSel a b c x) (x % 8) < 32
          · rw [if_pos c3]
            exact hskip (by unfold fd1 okS; rw [if_neg c1]; simp [c2, c3])
          · rw [if_neg c3]
            by_cases c4 : 126 < bY (wSel a b c x) (x % 8)
            · rw [if_pos c4]
              exact hskip (by unfold fd1 okS; rw [if_neg c1]; simp [c2, c4])
            · rw [if_neg c4]
              exact htake c1 (by unfold okS; simp [c3, c4])
    show ∃ s', f_Mo_feed_b8 _ _ _ _ _ _ = _ ∧ _
    unfold f_Mo_feed_b8
    rw [if_neg (show ¬ (24 : Int32) ≤ nI x from nI_ge (b := 24) (by omega) (by decide))]
    by_cases c8 : x < 8
    · rw [if_neg (show ¬ (8 : Int32) ≤ nI x from nI_ge (b := 8) c8 (by decide))]
      exact h39 a (by unfold wSel; rw [if_pos c8])
    · rw [if_pos (show (8 : Int32) ≤ nI x from nI_le (a := 8) (by omega) (by omega))]
      by_cases c16 : x < 16
      · rw [if_neg (show ¬ (16 : Int32) ≤ nI x from nI_ge (b := 16) c16 (by decide))]
        exact h39 b (by unfold wSel; rw [if_neg c8, if_pos c16])
      · rw [if_pos (show (16 : Int32) ≤ nI x from nI_le (a := 16) (by omega) (by omega))]
        exact h39 c (by unfold wSel; rw [if_neg c8, if_neg c16])
theorem fdM_A (V : Vw) (a b c : Int64) : fdM a b c 24 0 V = fdA V a b c := rfl
theorem m_feed (h : RM V s) (ho : tpOk V) (a b c : Int64) : ∃ s', f_Mo_feed a b c s = some (fdA V a b c 46 1, s') ∧ RM (fdA V a b c) s' ∧ FO s s' := by
  obtain ⟨h0, f0, t0⟩ := h.no
  obtain ⟨s1, e1, h1, f1⟩ := m_feed_h a b c 24 0 zl_fl V _ h0 ho (by decide) (zl_fl_lt (by decide))
  rw [fdM_A] at e1 h1
  refine ⟨s1, ?_, h1, f0.trans f1.1⟩
  unfold f_Mo_feed
  rw [f_ck_of h.b]
  exact e1
end
