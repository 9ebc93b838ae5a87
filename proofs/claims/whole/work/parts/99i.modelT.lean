/-! works: the model reads a text -/
section
variable {s s' s1 s2 : Sg} {T : Nat → Nat} {n c : Nat} {e : Nm} {τ : Tok} {z : Ps}
theorem m_sent (h : MS T n z τ s) (hg : PG T n z τ) (hk : τ.k ≠ 0) (F : Nat) : ∃ f, f_Mo_readsAll_h44 (F + 1) s = f_bd f (fun r t => if r = 0 then some ((0 : Int32), t) else f_Mo_readsAll_h44 F t) ∧ mRs T n s (pSent (tkn T n) z τ) f := by
  have ht := hg.2.2.2.2.2.2
  have hb := h.1.1.b
  have W4 : f_Mo_isWord 232608281 s = some (if τ.k = 4 then 1 else 0, s) := me_word h.1 ht wk_4 (kw := 4) (fun a => kwd_4) (by decide)
  have W6 : f_Mo_isWord 10793230 s = some (if τ.k = 6 then 1 else 0, s) := me_word h.1 ht wk_6 (kw := 6) (fun a => kwd_6) (by decide)
  have W7 : f_Mo_isWord 6936589 s = some (if τ.k = 7 then 1 else 0, s) := me_word h.1 ht wk_7 (kw := 7) (fun a => kwd_7) (by decide)
  have h44 : f_Mo_readsAll_h44 (F + 1) s = f_Mo_readsAll_b44 (f_Mo_readsAll_h44 F) s := rfl
  unfold f_Mo_readsAll_b44 at h44
  rw [f_ck_of hb, if_neg (show ¬ mI s 46 6 = 0 from fun q => hk (mkd_0.mp ((me_6 h.1 0 (by decide)).mp q))), f_bd_of W4, f_ck_of hb, f_bd_of W6] at h44
  rw [h44]
  unfold pSent
  by_cases c4 : τ.k = 4
  · rw [if_pos c4, if_pos c4, if_neg (show ¬ (1 : Int32) = 0 by decide)]
    refine ⟨f_Mo_readsPerson s, ?_, m_pers h hg⟩
    unfold f_Mo_readsAll_b91 f_Mo_readsAll_b128
    rw [if_neg (show ¬ (1 : Int32) = 0 by decide), f_ck_of hb]
  · rw [if_neg c4, if_neg c4, if_pos rfl]
    by_cases c6 : τ.k = 6
    · rw [if_pos c6, if_pos c6, if_neg (show ¬ (1 : Int32) = 0 by decide)]
      refine ⟨f_Mo_readsThing s, ?_, m_thin h hg⟩
      unfold f_Mo_readsAll_b91 f_Mo_readsAll_b128
      rw [if_pos rfl, if_neg (show ¬ (1 : Int32) = 0 by decide), f_ck_of hb]
    · rw [if_neg c6, if_neg c6, if_pos rfl, f_ck_of hb, f_bd_of W7]
      by_cases c7 : τ.k = 7
      · rw [if_pos c7, if_pos c7, if_neg (show ¬ (1 : Int32) = 0 by decide)]
        refine ⟨f_Mo_readsLine s, ?_, m_linR h hg hk⟩
        unfold f_Mo_readsAll_b91 f_Mo_readsAll_b128
        rw [if_pos rfl, if_pos rfl, f_ck_of hb]
      · rw [if_neg c7, if_neg c7, if_pos rfl]
        obtain ⟨s2, e2, f2, z2⟩ := me_failN h.1 0 0 1
        have e85 : f_Mo_readsAll_b85 s = some (0, s2) := by
          unfold f_Mo_readsAll_b85
          rw [f_ck_of hb]
          exact e2
        refine ⟨f_Mo_readsAll_b85 s, ?_, s2, e85, fr_qE f2, z2, h.2.1.ee f2⟩
        rw [e85]
        rfl
theorem m_txt : ∀ (f : Nat) (z : Ps) (τ : Tok) (s : Sg) (F : Nat), n + 1 ≤ f + τ.st → f < F → MS T n z τ s → PG T n z τ → match pAll (tkn T n) f z τ with
    | .error q => ∃ s', f_Mo_readsAll_h44 F s = some (0, s') ∧ FR qA qB s s' ∧ mI s' 46 9 = nI q.1 ∧ MC q.2 s'
    | .ok z' => ∃ τ' s', f_Mo_readsAll_h44 F s = some (1, s') ∧ FR qA qB s s' ∧ MS T n z' τ' s' := by
  intro f
  induction f with
  | zero => intro z τ s F hf hF h hg; have := hg.2.2.2.2.2.2.st.1; exact absurd hf (by omega)
  | succ f ih =>
    intro z τ s F hf hF h hg
    obtain ⟨F, rfl⟩ : ∃ g, F = g + 1 := ⟨F - 1, by omega⟩
    have hb := h.1.1.b
    unfold pAll
    by_cases c0 : τ.k = 0
    · rw [if_pos c0]
      refine ⟨τ, s, ?_, FR.rf _ _ _, h⟩
      show f_Mo_readsAll_b44 (f_Mo_readsAll_h44 F) s = _
      unfold f_Mo_readsAll_b44
      rw [f_ck_of hb, if_pos (show mI s 46 6 = 0 from (me_6 h.1 0 (by decide)).mpr (mkd_0.mpr c0))]
    · rw [if_neg c0]
      obtain ⟨g, hgo, h1⟩ := m_sent h hg c0 F
      have h2 := pSent_G hg c0
      cases hr : pSent (tkn T n) z τ with
      | error q =>
        rw [hr] at h1
        obtain ⟨s2, e2, f2, z2, cc2⟩ := h1
        refine ⟨s2, ?_, f2, z2, cc2⟩
        rw [hgo, f_bd_of e2, if_pos rfl]
      | ok r =>
        rw [hr] at h1 h2
        obtain ⟨s2, e2, f2, cs2⟩ := h1
        have hi := ih r.1 r.2 s2 F (by have := h2.2; omega) (by omega) cs2 h2.1
        rw [f_bd_of e2, if_neg (show ¬ (1 : Int32) = 0 by decide)] at hgo
        show match pAll (tkn T n) f r.1 r.2 with
          | .error q => ∃ s', f_Mo_readsAll_h44 (F + 1) s = some (0, s') ∧ FR qA qB s s' ∧ mI s' 46 9 = nI q.1 ∧ MC q.2 s'
          | .ok z' => ∃ τ' s', f_Mo_readsAll_h44 (F + 1) s = some (1, s') ∧ FR qA qB s s' ∧ MS T n z' τ' s'
        cases hq : pAll (tkn T n) f r.1 r.2 with
        | error q =>
          rw [hq] at hi
          obtain ⟨s3, e3, f3, z3⟩ := hi
          exact ⟨s3, hgo.trans e3, f2.tr f3, z3⟩
        | ok z' =>
          rw [hq] at hi
          obtain ⟨τ3, s3, e3, f3, z3⟩ := hi
          exact ⟨τ3, s3, hgo.trans e3, f2.tr f3, z3⟩
def rdA (a k : Nat) : Prop := qA a k ∨ (a = 46 ∧ (k = 1 ∨ k = 3))
theorem fr_rd (f : FR qA qB s s') : FR rdA qB s s' := f.mo (fun _ _ h => Or.inl h) (fun _ _ h => h)
theorem m_readsAll {cst : Nat → Nat} (hb : zl_B s) (hn : n ≤ 1000) (h1 : mI s 46 1 = nI n) (hT : ∀ k, k < n → mI s 47 k = nI (T k) ∧ T k < 127) (hc : MC cst s) (hcst : ∀ k, cst k ≤ 999) : match pAll (tkn T n) 1001 (z00 cst) (tkn T n 0) with
    | .error q => ∃ s', f_Mo_readsAll s = some (0, s') ∧ FR rdA qB s s' ∧ mI s' 46 9 = nI q.1 ∧ MC q.2 s' ∧ mI s' 46 1 = 0
    | .ok z' => ∃ τ' s', f_Mo_readsAll s = some (1, s') ∧ FR rdA qB s s' ∧ MS T n z' τ' s' ∧ mI s' 46 1 = 0 := by
  have e1 : mI (uI (uI (uI (uI s 46 22 0) 46 23 0) 46 24 0) 46 21 1000) 46 1 = nI n := by rw [mI_ne _ _ (by omega), mI_ne _ _ (by omega), mI_ne _ _ (by omega), mI_ne _ _ (by omega)]; exact h1
  have f0 : FR rdA qB s (uI (uI (uI (uI (uI (uI (uI s 46 22 0) 46 23 0) 46 24 0) 46 21 1000) 46 3 (nI n)) 46 1 0) 46 4 0) := ((((((fr_uI s _ (by unfold rdA qA; omega)).tr (fr_uI _ _ (by unfold rdA qA; omega))).tr (fr_uI _ _ (by unfold rdA qA; omega))).tr (fr_uI _ _ (by unfold rdA qA; omega))).tr (fr_uI _ _ (by unfold rdA qA; omega))).tr (fr_uI _ _ (by unfold rdA qA; omega))).tr (fr_uI _ _ (by unfold rdA qA; omega))
  have z0 : ∀ a k, ¬ (a = 46) → mI (uI (uI (uI (uI (uI (uI (uI s 46 22 0) 46 23 0) 46 24 0) 46 21 1000) 46 3 (nI n)) 46 1 0) 46 4 0) a k = mI s a k := fun a k g => by rw [mI_ne _ _ (by omega), mI_ne _ _ (by omega), mI_ne _ _ (by omega), mI_ne _ _ (by omega), mI_ne _ _ (by omega), mI_ne _ _ (by omega), mI_ne _ _ (by omega)]
  have v4 : mI (uI (uI (uI (uI (uI (uI (uI s 46 22 0) 46 23 0) 46 24 0) 46 21 1000) 46 3 (nI n)) 46 1 0) 46 4 0) 46 4 = nI 0 := mI_at _ _ _ _
  have v1 : mI (uI (uI (uI (uI (uI (uI (uI s 46 22 0) 46 23 0) 46 24 0) 46 21 1000) 46 3 (nI n)) 46 1 0) 46 4 0) 46 1 = 0 := by rw [mI_ne _ _ (by omega)]; exact mI_at _ _ _ _
  have v3 : mI (uI (uI (uI (uI (uI (uI (uI s 46 22 0) 46 23 0) 46 24 0) 46 21 1000) 46 3 (nI n)) 46 1 0) 46 4 0) 46 3 = nI n := by rw [mI_ne _ _ (by omega), mI_ne _ _ (by omega)]; exact mI_at _ _ _ _
  have v21 : mI (uI (uI (uI (uI (uI (uI (uI s 46 22 0) 46 23 0) 46 24 0) 46 21 1000) 46 3 (nI n)) 46 1 0) 46 4 0) 46 21 = nI (1000 + 0) := by rw [mI_ne _ _ (by omega), mI_ne _ _ (by omega), mI_ne _ _ (by omega)]; exact mI_at _ _ _ _
  have v24 : mI (uI (uI (uI (uI (uI (uI (uI s 46 22 0) 46 23 0) 46 24 0) 46 21 1000) 46 3 (nI n)) 46 1 0) 46 4 0) 46 24 = nI 0 := by rw [mI_ne _ _ (by omega), mI_ne _ _ (by omega), mI_ne _ _ (by omega), mI_ne _ _ (by omega)]; exact mI_at _ _ _ _
  have v23 : mI (uI (uI (uI (uI (uI (uI (uI s 46 22 0) 46 23 0) 46 24 0) 46 21 1000) 46 3 (nI n)) 46 1 0) 46 4 0) 46 23 = nI 0 := by rw [mI_ne _ _ (by omega), mI_ne _ _ (by omega), mI_ne _ _ (by omega), mI_ne _ _ (by omega), mI_ne _ _ (by omega)]; exact mI_at _ _ _ _
  have v22 : mI (uI (uI (uI (uI (uI (uI (uI s 46 22 0) 46 23 0) 46 24 0) 46 21 1000) 46 3 (nI n)) 46 1 0) 46 4 0) 46 22 = nI 0 := by rw [mI_ne _ _ (by omega), mI_ne _ _ (by omega), mI_ne _ _ (by omega), mI_ne _ _ (by omega), mI_ne _ _ (by omega), mI_ne _ _ (by omega)]; exact mI_at _ _ _ _
  have er : ∀ s4, f_Mo_nextToken (uI (uI (uI (uI (uI (uI (uI s 46 22 0) 46 23 0) 46 24 0) 46 21 1000) 46 3 (nI n)) 46 1 0) 46 4 0) = some ((), s4) → f_Mo_readsAll s = f_Mo_readsAll_h44 zl_fl s4 := fun s4 e4 => by
    unfold f_Mo_readsAll
    rw [f_ck_of hb]
    show f_bd (f_Mo_nextToken (uI (uI (uI (uI (uI (uI (uI s 46 22 0) 46 23 0) 46 24 0) 46 21 1000) 46 3 (mI (uI (uI (uI (uI s 46 22 0) 46 23 0) 46 24 0) 46 21 1000) 46 1)) 46 1 0) 46 4 0)) _ = _
    rw [e1, f_bd_of e4]
  generalize uI (uI (uI (uI (uI (uI (uI s 46 22 0) 46 23 0) 46 24 0) 46 21 1000) 46 3 (nI n)) 46 1 0) 46 4 0 = s0 at *
  have hx : MTx T n s0 := ⟨f0.b hb, hn, v3, fun k hk => ⟨(z0 47 k (by decide)).trans (hT k hk).1, (hT k hk).2⟩⟩
  obtain ⟨s4, e4, f4, k4⟩ := m_next (p := 0) hx (Nat.zero_le _) v4
  have hms : MS T n (z00 cst) (tkn T n 0) s4 := by
    refine ⟨⟨hx.c f4, ⟨(f4.2.1 46 22 (by unfold nAx; omega)).trans v22, (f4.2.1 46 23 (by unfold nAx; omega)).trans v23, fun i hi => absurd hi (Nat.not_lt_zero _), fun i hi => absurd hi (Nat.not_lt_zero _)⟩, k4, (f4.2.1 46 21 (by unfold nAx; omega)).trans v21⟩, fun k hk => ?_, (f4.2.1 46 24 (by unfold nAx; omega)).trans v24, fun p hp => absurd hp (Nat.not_lt_zero _), fun i hi => absurd hi (Nat.not_lt_zero _)⟩
    exact (f4.2.1 50 _ (by unfold nAx; omega)).trans ((z0 50 _ (by decide)).trans (hc k hk))
  have hg := z00_G (T := T) hcst hn
  have ha := m_txt (T := T) (n := n) 1001 (z00 cst) (tkn T n 0) s4 zl_fl (by omega) (by rw [zl_4096]; omega) hms hg
  have w1 : ∀ s5, FR qA qB s4 s5 → mI s5 46 1 = 0 := fun s5 f5 => (f5.2.1 46 1 (by unfold qA; omega)).trans ((f4.2.1 46 1 (by unfold nAx; omega)).trans v1)
  have ff : ∀ s5, FR qA qB s4 s5 → FR rdA qB s s5 := fun s5 f5 => (f0.tr (fr_rd (fr_qC f4))).tr (fr_rd f5)
  cases hr : pAll (tkn T n) 1001 (z00 cst) (tkn T n 0) with
  | error q =>
    rw [hr] at ha
    obtain ⟨s5, e5, f5, z5, c5⟩ := ha
    exact ⟨s5, (er s4 e4).trans e5, ff s5 f5, z5, c5, w1 s5 f5⟩
  | ok z' =>
    rw [hr] at ha
    obtain ⟨τ5, s5, e5, f5, z5⟩ := ha
    exact ⟨τ5, s5, (er s4 e4).trans e5, ff s5 f5, z5, w1 s5 f5⟩
end
