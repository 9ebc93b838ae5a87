/-! the best row of steps: the model -/
section
def sBestL (V : Vw) : Nat → Nat → Nat → Nat
  | 0, _, b => b
  | k + 1, q, b => if vpa V q = true then (if sGood V q ≤ sGood V b then sBestL V k (q + 1) b else sBestL V k (q + 1) q) else sBestL V k (q + 1) b
def sBest (V : Vw) : Nat := sBestL V (4 ^ pN V - 1) 1 0
variable {V : Vw} {s : Sg}
theorem m_isPainsN (h : RM V s) {q : Nat} (hq : q < 2 ^ 31) : f_Mo_isPains (nI q) s = some (if vpa V q = true then 1 else 0, s) := by
  have e : xpa V (nI q) = vpa V q := by
    unfold xpa
    rw [nI_clamp hq]
    simp [nI_pos hq]
  rw [m_isPains h, e]
theorem m_best_h (h : RM V s) : ∀ (k q n b : Nat), q + k = 4 ^ pN V → b < 256 → k < n → f_Mo_bestPains_h4 n (nI b) (nI q) s = some (nI (sBestL V k q b), s) := by
  have hp4 := h.p4
  have h256 := p4_le hp4
  intro k
  induction k with
  | zero =>
    intro q n b hq hb hn
    obtain ⟨n, rfl⟩ : ∃ m, n = m + 1 := ⟨n - 1, by omega⟩
    show f_Mo_bestPains_b4 _ _ _ _ = _
    unfold f_Mo_bestPains_b4
    rw [f_ck_of h.b, h.pe, shl_2p _ hp4, if_pos (nI_le (by omega) (by omega))]
    rfl
  | succ k ih =>
    intro q n b hq hb hn
    obtain ⟨n, rfl⟩ : ∃ m, n = m + 1 := ⟨n - 1, by omega⟩
    show f_Mo_bestPains_b4 _ _ _ _ = some (nI (if vpa V q = true then (if sGood V q ≤ sGood V b then _ else _) else _), s)
    unfold f_Mo_bestPains_b4 f_Mo_bestPains_b39
    rw [f_ck_of h.b, h.pe, shl_2p _ hp4, if_neg (nI_ge (by omega) (by omega)), f_bd_of (m_isPainsN h (by omega)), nI_1]
    by_cases c : vpa V q = true
    · rw [if_pos c, if_pos c, if_neg (by decide), f_ck_of h.b, f_bd_of (m_goodOf h (by omega)), f_ck_of h.b, f_bd_of (m_goodOf h hb)]
      by_cases c2 : sGood V q ≤ sGood V b
      · rw [if_pos c2, if_pos c2]
        exact ih (q + 1) n b (by omega) hb (by omega)
      · rw [if_neg c2, if_neg c2]
        exact ih (q + 1) n q (by omega) (by omega) (by omega)
    · rw [if_neg c, if_neg c, if_pos rfl]
      exact ih (q + 1) n b (by omega) hb (by omega)
theorem m_bestPains (h : RM V s) : f_Mo_bestPains s = some (nI (sBest V), s) := by
  have hp4 := h.p4
  have h256 := p4_le hp4
  have h1 : 1 ≤ 4 ^ pN V := Nat.one_le_pow _ _ (by decide)
  unfold f_Mo_bestPains
  exact m_best_h h (4 ^ pN V - 1) 1 zl_fl 0 (by omega) (by decide) (zl_fl_lt (by omega))
theorem sBestL_lt (V : Vw) : ∀ (k q b : Nat), b < q → sBestL V k q b < q + k := by
  intro k
  induction k with
  | zero => intro q b hb; exact hb
  | succ k ih =>
    intro q b hb
    show (if _ then _ else _) < _
    have h1 := ih (q + 1) b (by omega)
    have h2 := ih (q + 1) q (by omega)
    split
    · split <;> omega
    · omega
theorem sBest_lt {V : Vw} (hW : WV V) : sBest V < 256 := by
  have := sBestL_lt V (4 ^ pN V - 1) 1 0 (by decide)
  have := p4_le hW.1.2
  have h1 : 1 ≤ 4 ^ pN V := Nat.one_le_pow _ _ (by decide)
  unfold sBest
  omega
end
