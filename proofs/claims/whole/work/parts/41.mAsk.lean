/-! the model's questions: has, makes, would, isRest, good .. -/
section
theorem is_n_mono {x : Int32} {m m' : Nat} (h : is_n x m) (hm : m ≤ m') : is_n x m' := by
  obtain ⟨k, hk, e⟩ := h
  exact ⟨k, Nat.le_trans hk hm, e⟩
theorem CX_laid {V V' : Vw} (hW : WV V) {c : Nat} {ow nd : Nat → Int32} (hl : laid V' c ow nd (tN V)) (he : eqW V V') (ho : ∀ t, t < tN V → is_n (ow t) 15 ∧ is_n (nd t) 4) : CX V' c ∧ CX V' (c + 3) := by
  have h16 : 2 ^ pN V - 1 ≤ 15 := by have := p2_le hW.1.2; omega
  have h3 := hW.2.1.2
  refine ⟨fun t ht => ?_, fun t ht => ?_⟩
  · rw [eqW_tN he] at ht
    rw [(hl t ht).1, (hl t ht).2.1]; exact ho t ht
  · rw [eqW_tN he] at ht
    rw [(hl t ht).2.2.1, (hl t ht).2.2.2, he 71 t rfl, he 72 t rfl]
    obtain ⟨-, -, h3, h4, -⟩ := hW.2.2.2.2.2.2.1 t (by omega)
    split
    · exact ho t ht
    · exact ⟨h3, h4⟩
theorem own_lim {V : Vw} (hW : WV V) (t : Nat) (ht : t < 3) : is_n (V 69 t) 15 ∧ is_n (V 70 t) 4 := by
  have h16 : 2 ^ pN V - 1 ≤ 15 := by have := p2_le hW.1.2; omega
  obtain ⟨h1, h2, -⟩ := hW.2.2.2.2.2.2.1 t ht
  exact ⟨is_n_mono h1 h16, h2⟩
theorem asIs_MX {V V' : Vw} (hW : WV V) (h : asIs V V') : MX V' := by
  obtain ⟨he, -, h50, hl⟩ := h
  have h3 := hW.2.1.2
  obtain ⟨c0, c3⟩ := CX_laid hW (fun t ht => hl t (by omega)) he (fun t ht => own_lim hW t (by omega))
  exact ⟨c0, c3, Or.inl h50⟩
theorem eqW_xb {V V' : Vw} (h : eqW V V') (x : Int32) : xb x (pN V') = xb x (pN V) ∧ xb x (tN V') = xb x (tN V) ∧ xb x (2 ^ pN V') = xb x (2 ^ pN V) := by rw [eqW_pN h, eqW_tN h]; exact ⟨rfl, rfl, rfl⟩
theorem eqW_xpa {V V' : Vw} (h : eqW V V') (x : Int32) : xpa V' x = xpa V x := by
  unfold xpa vpa
  rw [eqW_pN h]
  simp only [eqW_sN h]
theorem xpa_t {V : Vw} {x : Int32} (hW : WV V) (h : xpa V x = true) : ∃ q : Nat, q < 256 ∧ x = nI q ∧ vpa V q = true := by
  simp only [xpa, Bool.and_eq_true, Bool.not_eq_true', decide_eq_false_iff_not] at h
  obtain ⟨q, hq, rfl⟩ := nI_of h.1
  have h2 := h.2
  rw [nI_clamp hq] at h2
  have := vpa_lt h2
  have := p4_le hW.1.2
  exact ⟨q, by omega, rfl, h2⟩
end
