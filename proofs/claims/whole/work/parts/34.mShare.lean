/-! shares: the model -/
section
def sOrd (n : Nat) : Nat := if n < 2 then 1 else if n = 2 then 2 else if n = 3 then 6 else 24
def sAllO (V : Vw) (r p q : Nat) : Nat → Nat → Int64 → Int64
  | 0, _, a => a
  | k + 1, u, a => sAllO V r p q k (u + 1) (if u / 2 ^ p % 2 = 1 then a else a + (sMk V r (u ||| 2 ^ p) q - sMk V r u q).toInt64 * (nI (sOrd (sBits u))).toInt64 * (nI (sOrd (pN V - 1 - sBits u))).toInt64)
def sOnes (V : Vw) (r q : Nat) : Nat → Nat → Int64 → Int64
  | 0, _, a => a
  | k + 1, p, a => sOnes V r q k (p + 1) (a + (sMk V r (2 ^ p) q).toInt64)
def sRest (V : Vw) (r q : Nat) : Int64 := (sMk V r (2 ^ pN V - 1) q).toInt64 - sOnes V r q (pN V) 0 0
def sShB (V : Vw) (r p q : Nat) : Int64 := if V 46 46 = 0 then sAllO V r p q (2 ^ pN V) 0 0 * (24 / nI (sOrd (pN V))).toInt64 else
  if V 46 46 = 1 then 24 * (sMk V r (2 ^ p) q).toInt64 + sRest V r q * (24 / nI (pN V)).toInt64 else
  if nI p = V 46 47 then 24 * ((sMk V r (2 ^ p) q).toInt64 + sRest V r q) else 24 * (sMk V r (2 ^ p) q).toInt64
def sShI (V : Vw) (c p q : Nat) : Int64 := (10 - V 46 45).toInt64 * sShB V c p q + (V 46 45).toInt64 * sShB V (c + 3) p q
theorem bits_room : ∀ pn, pn ≤ 4 → ∀ p, p < pn → ∀ u, u < 2 ^ pn → u / 2 ^ p % 2 ≠ 1 → sBits u + 1 ≤ pn := by decide
theorem or_room : ∀ pn, pn ≤ 4 → ∀ p, p < pn → ∀ u, u < 2 ^ pn → u ||| 2 ^ p < 16 := by decide
variable {V : Vw} {s : Sg}
theorem m_orders {n : Nat} (hn : n < 2 ^ 31) : f_Mo_orders (nI n) s = some (nI (sOrd n), s) := by
  unfold f_Mo_orders sOrd
  by_cases h1 : n < 2
  · rw [if_pos h1, if_neg (show ¬ (2 : Int32) ≤ nI n from nI_ge h1 (by decide))]; rfl
  · rw [if_neg h1, if_pos (show (2 : Int32) ≤ nI n from nI_le (a := 2) (by omega) hn)]
    by_cases h2 : n = 2
    · subst h2; rfl
    · rw [if_neg h2, if_neg (show ¬ nI n = 2 from nI_neq hn (by decide) h2)]
      by_cases h3 : n = 3
      · subst h3; rfl
      · rw [if_neg h3, if_neg (show ¬ nI n = 3 from nI_neq hn (by decide) h3)]; rfl
theorem sOrd_pos (n : Nat) : 0 < sOrd n ∧ sOrd n ≤ 24 := by unfold sOrd; split <;> (try split) <;> (try split) <;> omega
theorem m_shareBy_all (h : RM V s) {r p q : Nat} (hr : r ≤ 9) (hp : p < pN V) (hq : q < 256) (hC : CX V r) : ∀ (k u n : Nat) (a : Int64), u + k = 2 ^ pN V → k < n → f_Mo_shareBy_h34 n (nI r) (nI p) (nI q) (nI (2 ^ pN V - 1)) a (nI u) s = some (sAllO V r p q k u a * (24 / nI (sOrd (pN V))).toInt64, s) := by
  have hp4 := h.p4
  have h16 : 1 ≤ 2 ^ pN V ∧ 2 ^ pN V ≤ 16 := ⟨Nat.one_le_two_pow, p2_le hp4⟩
  intro k
  induction k with
  | zero =>
    intro u n a hu hn
    obtain ⟨n, rfl⟩ : ∃ m, n = m + 1 := ⟨n - 1, by omega⟩
    show f_Mo_shareBy_b34 _ _ _ _ _ _ _ _ = _
    unfold f_Mo_shareBy_b34
    refine rn_T (nI_lt (by omega) (by omega)) ?_
    unfold f_Mo_shareBy_b118
    refine rn_ck h.b ?_
    rw [h.pe]
    refine rn_bd (m_orders (by omega)) (rn_ck (nI_ne0 (sOrd_pos _).1 (by have := (sOrd_pos (pN V)).2; omega)) rfl)
  | succ k ih =>
    intro u n a hu hn
    obtain ⟨n, rfl⟩ : ∃ m, n = m + 1 := ⟨n - 1, by omega⟩
    have hpu : p < 8 := by omega
    show f_Mo_shareBy_b34 _ _ _ _ _ _ _ _ = some (sAllO V r p q k (u + 1) (if u / 2 ^ p % 2 = 1 then a else _) * _, s)
    unfold f_Mo_shareBy_b34
    refine rn_F (nI_nlt (by omega) (by omega)) ?_
    rw [bit_at (by omega) hpu]
    by_cases c1 : u / 2 ^ p % 2 = 1
    · rw [if_pos c1, c1, if_pos (show nI 1 = 1 from rfl)]
      unfold f_Mo_shareBy_b112
      rw [nI_1]
      exact ih (u + 1) n a (by omega) (by omega)
    · have hb := bits_room _ hp4 p hp u (by omega) c1
      have ho := or_room _ hp4 p hp u (by omega)
      rw [if_neg c1, if_neg (show ¬ nI (u / 2 ^ p % 2) = 1 from nI_neq (by omega) (by decide) c1)]
      refine rn_ck h.b ?_
      rw [shl_p p (by omega), nI_or]
      refine rn_bd (m_makesBy h hr ho hq hC) (rn_ck h.b (rn_bd (m_makesBy h hr (by omega) hq hC) (rn_bd (m_bits (by omega)) (rn_bd (m_orders (by omega)) (rn_ck h.b (rn_bd (m_bits (by omega)) ?_))))))
      have e1 : mI s 46 10 - 1 - nI (sBits u) = nI (pN V - 1 - sBits u) := by
        rw [h.pe]
        obtain ⟨m, hm⟩ : ∃ m, pN V = m + 1 := ⟨pN V - 1, by omega⟩
        obtain ⟨m2, hm2⟩ : ∃ m2, m = m2 + sBits u := ⟨m - sBits u, by omega⟩
        rw [hm, nI_pred, hm2, ← nI_add, show m2 + sBits u + 1 - 1 - sBits u = m2 by omega]
        rw [Int32.add_sub_cancel]
      rw [e1]
      refine rn_bd (m_orders (by omega)) ?_
      unfold f_Mo_shareBy_b112
      rw [nI_1]
      exact ih (u + 1) n _ (by omega) (by omega)
theorem m_shareBy_ones (h : RM V s) {r p q : Nat} (hr : r ≤ 9) (hp : p < pN V) (hq : q < 256) (hC : CX V r) : ∀ (k t n : Nat) (a : Int64), t + k = pN V → k < n → f_Mo_shareBy_h136 n (nI r) (nI p) (nI q) (nI (2 ^ pN V - 1)) (sMk V r (2 ^ p) q) a (nI t) s = f_Mo_shareBy_b167 (nI r) (nI p) (nI q) (nI (2 ^ pN V - 1)) (sMk V r (2 ^ p) q) (sOnes V r q k t a) s := by
  have hp4 := h.p4
  intro k
  induction k with
  | zero =>
    intro t n a ht hn
    obtain ⟨n, rfl⟩ : ∃ m, n = m + 1 := ⟨n - 1, by omega⟩
    show f_Mo_shareBy_b136 _ _ _ _ _ _ _ _ _ = _
    unfold f_Mo_shareBy_b136
    refine rn_ck h.b (rn_T ?_ rfl)
    rw [h.pe]; exact nI_le (by omega) (by omega)
  | succ k ih =>
    intro t n a ht hn
    obtain ⟨n, rfl⟩ : ∃ m, n = m + 1 := ⟨n - 1, by omega⟩
    have ht16 : 2 ^ t < 16 := by
      have : t = 0 ∨ t = 1 ∨ t = 2 ∨ t = 3 := by omega
      rcases this with rfl | rfl | rfl | rfl <;> decide
    show f_Mo_shareBy_b136 _ _ _ _ _ _ _ _ _ = _
    unfold f_Mo_shareBy_b136
    refine rn_ck h.b (rn_F ?_ ?_)
    · rw [h.pe]; exact nI_ge (by omega) (by omega)
    rw [shl_p t (by omega)]
    refine rn_bd (m_makesBy h hr ht16 hq hC) ?_
    rw [nI_1]
    exact ih (t + 1) n _ (by omega) (by omega)
theorem m_shareBy (h : RM V s) {r p q : Nat} (hr : r ≤ 9) (hp : p < pN V) (hq : q < 256) (hC : CX V r) : f_Mo_shareBy (nI r) (nI p) (nI q) s = some (sShB V r p q, s) := by
  have hp4 := h.p4
  have h16 : 1 ≤ 2 ^ pN V ∧ 2 ^ pN V ≤ 16 := ⟨Nat.one_le_two_pow, p2_le hp4⟩
  have hpp : 2 ^ p < 16 := by
    have : p = 0 ∨ p = 1 ∨ p = 2 ∨ p = 3 := by omega
    rcases this with rfl | rfl | rfl | rfl <;> decide
  have e4 : ((1 : Int32) <<< ((mI s 46 10) &&& 31)) - 1 = nI (2 ^ pN V - 1) := by
    rw [h.pe, shl_p _ (by omega)]
    obtain ⟨m, hm⟩ : ∃ m, 2 ^ pN V = m + 1 := ⟨2 ^ pN V - 1, by omega⟩
    rw [hm, nI_pred]; rfl
  have r46 : mI s 46 46 = V 46 46 := h.e 46 46 rfl
  have r47 : mI s 46 47 = V 46 47 := h.e 46 47 rfl
  unfold f_Mo_shareBy sShB
  refine rn_ck h.b ?_
  rw [shl_p p (by omega)]
  refine rn_bd (m_makesBy h hr hpp hq hC) (rn_ck h.b ?_)
  rw [e4, r46]
  by_cases c0 : V 46 46 = 0
  · rw [if_pos c0, if_pos c0]
    exact m_shareBy_all h hr hp hq hC (2 ^ pN V) 0 zl_fl 0 (by omega) (zl_fl_lt (by omega))
  · rw [if_neg c0, if_neg c0]
    rw [show (0 : Int32) = nI 0 from rfl, m_shareBy_ones h hr hp hq hC (pN V) 0 zl_fl 0 (by omega) (zl_fl_lt (by omega))]
    unfold f_Mo_shareBy_b167
    refine rn_ck h.b (rn_bd (m_makesBy h hr (by omega) hq hC) (rn_ck h.b ?_))
    rw [r46, r47, h.pe]
    unfold f_Mo_shareBy_b232
    by_cases c1 : V 46 46 = 1
    · rw [if_pos c1, if_pos c1]
      exact rn_ck (nI_ne0 (by omega) (by omega)) rfl
    · rw [if_neg c1, if_neg c1]
      by_cases c2 : nI p = V 46 47
      · rw [if_pos c2, if_pos c2]; rfl
      · rw [if_neg c2, if_neg c2]
theorem m_shareIn (h : RM V s) {c p q : Nat} (hc : c ≤ 6) (hp : p < pN V) (hq : q < 256) (hC : CX V c) (hC3 : CX V (c + 3)) : f_Mo_shareIn (nI c) (nI p) (nI q) s = some (sShI V c p q, s) := by
  have r45 : mI s 46 45 = V 46 45 := h.e 46 45 rfl
  unfold f_Mo_shareIn
  refine rn_ck h.b (rn_bd (m_shareBy h (by omega) hp hq hC) (rn_ck h.b ?_))
  rw [show (3 : Int32) = nI 3 from rfl, nI_add]
  refine rn_bd (m_shareBy h (by omega) hp hq hC3) ?_
  rw [r45]
  rfl
end
