/-! what an owning reaches: the model -/
section
/-- what is reached, in the model's two places -/
def reachd (V : Vw) (s : Sg) : Prop := (sFar V 99 0 = none → mI s 46 55 = 0 ∧ mI s 46 56 = 0) ∧ (∀ t, sFar V 99 0 = some t → mI s 46 55 = 1 ∧ mI s 46 56 = sGood V t.1 ∧ t.1 < 256)
variable {V : Vw} {s : Sg}
theorem m_reach (h : RM V s) (hM : MX V) : ∃ s', f_Mo_reach s = some ((), s') ∧ RM V s' ∧ FM s s' ∧ reachd V s' := by
  obtain ⟨s1, e1, h1, f1, t1⟩ := m_turnsOut h hM
  unfold f_Mo_reach
  rw [f_ck_of h.b, f_bd_of e1]
  cases hf : sFar V 99 0 with
  | none =>
    have h2 : RM V (uI s1 46 55 0) := h1.sc 46 55 0 rfl
    have h3 : RM V (uI (uI s1 46 55 0) 46 56 0) := h2.sc 46 56 0 rfl
    refine ⟨_, ?_, h3, (f1.trans (FM.uI _ (a := 46) (k := 55) _ (by omega))).trans (FM.uI _ (a := 46) (k := 56) _ (by omega)), ⟨fun _ => ⟨?_, mI_at _ _ _ _⟩, fun t ht => by rw [hf] at ht; cases ht⟩⟩
    · rw [if_pos (show oI none < 0 by decide)]
      unfold f_Mo_reach_b17
      rw [f_ck_of h1.b, f_ck_of ⟨rfl, rfl⟩]
      simp only [mI_at]
      rw [if_pos trivial]
      unfold f_Mo_reach_b37
      exact f_ck_of h2.b
    · rw [mI_ne _ _ (by decide), mI_at]
  | some t =>
    have ht := (t1 t hf).2
    have h2 : RM V (uI s1 46 55 1) := h1.sc 46 55 1 rfl
    have h3 : RM V (uI (uI s1 46 55 1) 46 56 (sGood V t.1)) := h2.sc 46 56 _ rfl
    refine ⟨_, ?_, h3, (f1.trans (FM.uI _ (a := 46) (k := 55) _ (by omega))).trans (FM.uI _ (a := 46) (k := 56) _ (by omega)), ⟨(fun h9 => by rw [hf] at h9; cases h9), fun t2 ht2 => ?_⟩⟩
    · rw [if_neg (show ¬ oI (some t) < 0 from nI_pos (by omega))]
      unfold f_Mo_reach_b17
      rw [f_ck_of h1.b, f_ck_of ⟨rfl, rfl⟩]
      simp only [mI_at]
      rw [if_neg (show ¬ (1 : Int32) = 0 by decide), show oI (some t) = nI t.1 from rfl, f_bd_of (m_goodOf h2 ht)]
      unfold f_Mo_reach_b37
      exact f_ck_of h2.b
    · rw [hf] at ht2
      cases ht2
      refine ⟨?_, mI_at _ _ _ _, ht⟩
      rw [mI_ne _ _ (by decide), mI_at]
theorem m_reachAsItIs (h : RM V s) : ∃ s' V', f_Mo_reachAsItIs s = some ((), s') ∧ RM V' s' ∧ FM s s' ∧ asIs V V' ∧ reachd V' s' := by
  obtain ⟨s1, V1, e1, h1, f1, a1⟩ := m_asItIs h
  obtain ⟨s2, e2, h2, f2, r2⟩ := m_reach h1 (asIs_MX h.w a1)
  refine ⟨s2, V1, ?_, h2, f1.trans f2, a1, r2⟩
  unfold f_Mo_reachAsItIs
  rw [f_ck_of h.b, f_bd_of e1, f_ck_of h1.b, f_bd_of e2]
end
