/-! the model's questions: has, makes, would, isRest, good .. -/
section
theorem is_n_mono {x : Int32} {m m' : Nat} (h : is_n x m) (hm : m ≤ m') : is_n x m' := by
  obtain ⟨k, hk, e⟩ := h
  exact ⟨k, Nat.le_trans hk hm, e⟩
theorem CX_laid {V V' : Vw} (hW : WV V) {c : Nat} {ow nd : Nat → Int32} (hl : laid V' c ow nd (tN V)) (he : eqW V V') (ho : ∀ t, t < tN V → is_n (ow t) 15 ∧ is_n (nd t) 4) : CX V' c ∧ CX V' (c + 3) := by
  have h16 : 2 ^ pN V - 1 ≤ 15 := by have := p2_le hW.1.2; omega
  have h3 := hW.2.1.2
  refine ⟨fun t ht => ?_, fun t ht => ?_⟩
  · rw [eqW_tN he] at ht
    rw [(hl t ht).1, (hl t ht).2.1]; exact ho t ht
  · rw [eqW_tN he] at ht
    rw [(hl t ht).2.2.1, (hl t ht).2.2.2, he 71 t rfl, he 72 t rfl]
    obtain ⟨-, -, h3, h4, -⟩ := hW.2.2.2.2.2.2.1 t (by omega)
    split
    · exact ho t ht
    · exact ⟨is_n_mono h3 h16, h4⟩
theorem own_lim {V : Vw} (hW : WV V) (t : Nat) (ht : t < 3) : is_n (V 69 t) 15 ∧ is_n (V 70 t) 4 := by
  have h16 : 2 ^ pN V - 1 ≤ 15 := by have := p2_le hW.1.2; omega
  obtain ⟨h1, h2, -⟩ := hW.2.2.2.2.2.2.1 t ht
  exact ⟨is_n_mono h1 h16, h2⟩
theorem asIs_MX {V V' : Vw} (hW : WV V) (h : asIs V V') : MX V' := by
  obtain ⟨he, -, h50, hl⟩ := h
  have h3 := hW.2.1.2
  obtain ⟨c0, c3⟩ := CX_laid hW (fun t ht => hl t (by omega)) he (fun t ht => own_lim hW t (by omega))
  exact ⟨c0, c3, Or.inl h50⟩
theorem eqW_xb {V V' : Vw} (h : eqW V V') (x : Int32) : xb x (pN V') = xb x (pN V) ∧ xb x (tN V') = xb x (tN V) ∧ xb x (2 ^ pN V') = xb x (2 ^ pN V) := by rw [eqW_pN h, eqW_tN h]; exact ⟨rfl, rfl, rfl⟩
theorem eqW_xpa {V V' : Vw} (h : eqW V V') (x : Int32) : xpa V' x = xpa V x := by
  unfold xpa vpa
  rw [eqW_pN h]
  simp only [eqW_sN h]
theorem xpa_t {V : Vw} {x : Int32} (hW : WV V) (h : xpa V x = true) : ∃ q : Nat, q < 256 ∧ x = nI q ∧ vpa V q = true := by
  simp only [xpa, Bool.and_eq_true, Bool.not_eq_true', decide_eq_false_iff_not] at h
  obtain ⟨q, hq, rfl⟩ := nI_of h.1
  have h2 := h.2
  rw [nI_clamp hq] at h2
  have := vpa_lt h2
  have := p4_le hW.1.2
  exact ⟨q, by omega, rfl, h2⟩
variable {V : Vw} {s : Sg}
/-- the answer in the world V' that the question lays -/
theorem m_has (h : RM V s) (x : Int32) : ∃ s' V' v, f_Mo_has x s = some (v, s') ∧ RM V' s' ∧ FM s s' ∧ asIs V V' ∧ (xb x (2 ^ pN V) = false → v = -1) ∧ (∀ u, u < 2 ^ pN V → x = nI u → v = nI (sHas V' 0 u)) := by
  have h0 : RM V (uI s 46 0 0) := h.sc 46 0 0 rfl
  obtain ⟨s1, V1, e1, h1, f1, a1⟩ := m_asItIs h0
  have f := (FM.uI s (a := 46) (k := 0) 0 (by decide)).trans f1
  have hM := asIs_MX h.w a1
  have hb := (eqW_xb a1.1 x).2.2
  unfold f_Mo_has
  simp only [f_ck_of h.b, f_ck_of h0.b, f_bd_of e1, f_ck_of h1.b, f_bd_of (m_areThem h1 x), hb]
  by_cases c : xb x (2 ^ pN V) = true
  · have h16 := p2_le h.p4
    obtain ⟨u, hu, rfl⟩ := xb_t c (by omega)
    refine ⟨s1, V1, nI (sHas V1 0 u), ?_, h1, f, a1, fun h9 => (by rw [c] at h9; cases h9), fun u2 hu2 e2 => by rw [(nI_eq (by omega) (by omega)).mp e2]⟩
    rw [if_pos c, if_neg (by decide)]
    have e5 := m_hasBy h1 (r := 0) (u := u) (by decide) (by omega) hM.1
    rw [show (0 : Int32) = nI 0 from rfl]
    first | (rw [f_bd_of e5]) | (rw [e5])
  · refine ⟨s1, V1, -1, ?_, h1, f, a1, fun _ => rfl, fun u hu e2 => absurd (by rw [e2]; exact xb_nI hu (by have := p2_le h.p4; omega)) c⟩
    rw [if_neg c, if_pos rfl]
theorem m_would (h : RM V s) (x1 x2 : Int32) : ∃ s' V' v, f_Mo_would x1 x2 s = some (v, s') ∧ RM V' s' ∧ FM s s' ∧ asIs V V' ∧ ((xb x1 (pN V) && xpa V x2) = false → v = -1) ∧ (∀ p q, p < pN V → x1 = nI p → q < 256 → x2 = nI q → vpa V q = true → v = nI (sWld V' p q)) := by
  have h0 : RM V (uI s 46 0 0) := h.sc 46 0 0 rfl
  obtain ⟨s1, V1, e1, h1, f1, a1⟩ := m_asItIs h0
  have f := (FM.uI s (a := 46) (k := 0) 0 (by decide)).trans f1
  have hM := asIs_MX h.w a1
  have hb := (eqW_xb a1.1 x1).1
  have hp := eqW_xpa a1.1 x2
  have hp4 := h.p4
  unfold f_Mo_would
  simp only [f_ck_of h.b, f_ck_of h0.b, f_bd_of e1, f_ck_of h1.b, f_bd_of (m_isPerson h1 x1), hb]
  by_cases c : xb x1 (pN V) = true
  · obtain ⟨p, hpp, rfl⟩ := xb_t c (by omega)
    rw [if_pos c, if_neg (by decide)]
    simp only [f_bd_of (m_isPains h1 x2), hp]
    by_cases c2 : xpa V x2 = true
    · obtain ⟨q, hq, rfl, hv⟩ := xpa_t h.w c2
      refine ⟨s1, V1, nI (sWld V1 p q), ?_, h1, f, a1, fun h9 => (by rw [c, c2] at h9; cases h9), fun p2 q2 hp2 e2 hq2 e3 _ => ?_⟩
      · rw [if_pos c2, if_neg (by decide)]
        have e5 := m_wouldOf h1 hM (p := p) (q := q) (by rw [eqW_pN a1.1]; exact hpp) hq
        rw [f_ck_of h1.b, f_bd_of e5]
      · rw [(nI_eq (by omega) (by omega)).mp e2, (nI_eq (by omega) (by omega)).mp e3]
    · refine ⟨s1, V1, -1, ?_, h1, f, a1, fun _ => rfl, fun p2 q2 hp2 e2 hq2 e3 hv => absurd ?_ c2⟩
      · rw [if_neg c2, if_pos rfl]
      · rw [e3]
        unfold xpa
        rw [nI_clamp (by omega), hv]
        simp [nI_pos (show q2 < 2 ^ 31 by omega)]
  · refine ⟨s1, V1, -1, ?_, h1, f, a1, fun _ => rfl, fun p2 q2 hp2 e2 _ _ _ => absurd (by rw [e2]; exact xb_nI hp2 (by omega)) c⟩
    rw [if_neg c, if_pos rfl]
end
