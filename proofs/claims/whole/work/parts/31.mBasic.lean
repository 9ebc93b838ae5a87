/-! the model's plain questions -/
section
variable {V : Vw} {s : Sg}
theorem m_within (x a b : Int32) : f_Mo_within x a b s = some (if a ≤ x ∧ x ≤ b then 1 else 0, s) := by
  unfold f_Mo_within
  by_cases h1 : x < a
  · rw [if_pos h1, if_neg (fun h => Int32.not_le.mpr h1 h.1)]
  · rw [if_neg h1]
    by_cases h2 : b < x
    · rw [if_pos h2, if_neg (fun h => Int32.not_le.mpr h2 h.2)]
    · rw [if_neg h2, if_pos ⟨Int32.not_lt.mp h1, Int32.not_lt.mp h2⟩]
theorem m_stepOf {q p : Nat} (hq : q < 256) (hp : p < 4) : f_Mo_stepOf (nI q) (nI p) s = some (nI (sStep q p), s) := by
  unfold f_Mo_stepOf
  rw [step_bits hq hp]
theorem m_isPerson (h : RM V s) (x : Int32) : f_Mo_isPerson x s = some (if xb x (pN V) = true then 1 else 0, s) := by
  unfold f_Mo_isPerson xb
  by_cases h1 : x < 0
  · simp [h1]
  · rw [if_neg h1, f_ck_of h.b, h.pe]
    by_cases h2 : nI (pN V) ≤ x <;> simp [h1, h2]
theorem m_isThing (h : RM V s) (x : Int32) : f_Mo_isThing x s = some (if xb x (tN V) = true then 1 else 0, s) := by
  unfold f_Mo_isThing xb
  by_cases h1 : x < 0
  · simp [h1]
  · rw [if_neg h1, f_ck_of h.b, h.th]
    by_cases h2 : nI (tN V) ≤ x <;> simp [h1, h2]
theorem m_areThem (h : RM V s) (x : Int32) : f_Mo_areThem x s = some (if xb x (2 ^ pN V) = true then 1 else 0, s) := by
  unfold f_Mo_areThem xb
  by_cases h1 : x < 0
  · simp [h1]
  · rw [if_neg h1, f_ck_of h.b, h.pe, shl_p _ (by have := h.p4; omega)]
    by_cases h2 : nI (2 ^ pN V) ≤ x <;> simp [h1, h2]
theorem sStep_lt (q p : Nat) : sStep q p < 4 := Nat.mod_lt _ (by decide)
theorem m_isPains_h (h : RM V s) {q : Nat} (hq : q < 256) : ∀ (k j n : Nat), j + k = pN V → k < n → f_Mo_isPains_h20 n (nI q) (nI j) s = some (if sAll (fun p => decide (sStep q p ≤ sN V p)) k j = true then 1 else 0, s) := by
  have hp4 := h.p4
  intro k
  induction k with
  | zero =>
    intro j n hj hn
    obtain ⟨n, rfl⟩ : ∃ m, n = m + 1 := ⟨n - 1, by omega⟩
    show f_Mo_isPains_b20 _ _ _ _ = _
    unfold f_Mo_isPains_b20
    refine rn_ck h.b (rn_T ?_ rfl)
    rw [h.pe]; exact nI_le (by omega) (by omega)
  | succ k ih =>
    intro j n hj hn
    obtain ⟨n, rfl⟩ : ∃ m, n = m + 1 := ⟨n - 1, by omega⟩
    show f_Mo_isPains_b20 _ _ _ _ = _
    unfold f_Mo_isPains_b20
    refine rn_ck h.b (rn_F ?_ (rn_bd (m_stepOf hq (by omega)) (rn_ck h.b (rn_ck (vp_in_nI (by omega) (by decide)) ?_))))
    · rw [h.pe]; exact nI_ge (by omega) (by omega)
    · have h3 : sN V j < 2 ^ 31 := by have := (h.w.2.2.2.1 j (by omega)).2.2; omega
      rw [nI_clamp (by omega), h.st (by omega), nI_1]
      by_cases hc : sStep q j ≤ sN V j
      · rw [if_pos ((nI_leI (by have := sStep_lt q j; omega) h3).mpr hc), ih (j + 1) n (by omega) (by omega)]
        simp [sAll, hc]
      · rw [if_neg (fun h9 => hc ((nI_leI (by have := sStep_lt q j; omega) h3).mp h9))]
        simp [sAll, hc]
theorem m_isPains (h : RM V s) (x : Int32) : f_Mo_isPains x s = some (if xpa V x = true then 1 else 0, s) := by
  have hp4 := h.p4
  have h256 := p4_le hp4
  unfold f_Mo_isPains xpa
  by_cases h1 : x < 0
  · simp [h1]
  · rw [if_neg h1, f_ck_of h.b, h.pe, shl_2p _ hp4]
    obtain ⟨q, hq, rfl⟩ := nI_of h1
    rw [nI_clamp hq]
    have hx : (!decide (nI q < 0) && vpa V q) = vpa V q := by simp [nI_pos hq]
    rw [hx]
    by_cases h2 : q < 4 ^ pN V
    · rw [if_pos ((nI_ltI hq (by omega)).mpr h2)]
      have h3 := m_isPains_h h (q := q) (by omega) (pN V) 0 zl_fl (by omega) (zl_fl_lt (by omega))
      refine h3.trans ?_
      simp [vpa, h2]
    · rw [if_neg (fun h9 => h2 ((nI_ltI hq (by omega)).mp h9))]
      simp [vpa, h2]
end
