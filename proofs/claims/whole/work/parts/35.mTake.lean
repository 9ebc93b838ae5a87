/-! what one gains, and takes: the model -/
section
def sTk (q p st : Nat) : Nat := q - sStep q p * 4 ^ p + st * 4 ^ p
theorem tk_0 : ∀ q, q < 256 → ∀ st, st < 4 → (q &&& 4294967292) ||| st * 1 = sTk q 0 st := by decide +kernel
theorem tk_1 : ∀ q, q < 256 → ∀ st, st < 4 → (q &&& 4294967283) ||| st * 4 = sTk q 1 st := by decide +kernel
theorem tk_2 : ∀ q, q < 256 → ∀ st, st < 4 → (q &&& 4294967247) ||| st * 16 = sTk q 2 st := by decide +kernel
theorem tk_3 : ∀ q, q < 256 → ∀ st, st < 4 → (q &&& 4294967103) ||| st * 64 = sTk q 3 st := by decide +kernel
theorem tk_lt {q p st : Nat} (hq : q < 256) (hp : p < 4) (hst : st < 4) : sTk q p st < 256 := by
  have h4 : p = 0 ∨ p = 1 ∨ p = 2 ∨ p = 3 := by omega
  unfold sTk sStep
  rcases h4 with rfl | rfl | rfl | rfl <;> omega
theorem tk_bits {q p st : Nat} (hq : q < 256) (hp : p < 4) (hst : st < 4) : ((nI q &&& (((3 : Int32) <<< ((2 * nI p) &&& 31)) ^^^ (-1))) ||| (nI st <<< ((2 * nI p) &&& 31))) = nI (sTk q p st) := by
  have h4 : p = 0 ∨ p = 1 ∨ p = 2 ∨ p = 3 := by omega
  rcases h4 with rfl | rfl | rfl | rfl
  · rw [show ((3 : Int32) <<< ((2 * nI 0) &&& 31)) ^^^ (-1) = nI 4294967292 by decide, pk_shlN _ 0 (by decide) (by omega), nI_and, nI_or, ← tk_0 q hq st hst]
  · rw [show ((3 : Int32) <<< ((2 * nI 1) &&& 31)) ^^^ (-1) = nI 4294967283 by decide, pk_shlN _ 2 (by decide) (by omega), nI_and, nI_or, ← tk_1 q hq st hst]
  · rw [show ((3 : Int32) <<< ((2 * nI 2) &&& 31)) ^^^ (-1) = nI 4294967247 by decide, pk_shlN _ 4 (by decide) (by omega), nI_and, nI_or, ← tk_2 q hq st hst]
  · rw [show ((3 : Int32) <<< ((2 * nI 3) &&& 31)) ^^^ (-1) = nI 4294967103 by decide, pk_shlN _ 6 (by decide) (by omega), nI_and, nI_or, ← tk_3 q hq st hst]
def mS (V : Vw) : Int64 := 240 * (V 46 53).toInt64
/-- what the owners of the deal's thing get -/
def sPay (V : Vw) (p : Nat) : Int64 := if cN V 69 (cN V 46 52) / 2 ^ p % 2 = 1 then mS V / (nI (sBits (cN V 69 (cN V 46 52)))).toInt64 else 0
def sBought (V : Vw) (q : Nat) : Bool := !decide (sShI V 6 (cN V 46 51) q - mS V + sPay V (cN V 46 51) ≤ sShI V 0 (cN V 46 51) q)
def sPaid (V : Vw) (q : Nat) : Bool := !decide (sShI V 0 (cN V 46 51) q < mS V)
def sCost (V : Vw) (p q : Nat) : Int64 := 240 * (V 50 ((4 * p + sStep q p) % 16)).toInt64
def sOwe (V : Vw) (p : Nat) : Int64 := if nI p = V 46 51 then mS V else 0
def sHasOf (V : Vw) (p q : Nat) : Int64 :=
  if V 46 50 = 1 then (if sBought V q = true then sShI V 6 p q + sPay V p - sOwe V p - sCost V p q else sShI V 0 p q - sCost V p q)
  else if V 46 50 = 2 then (if sPaid V q = true then sShI V 0 p q - sOwe V p - sCost V p q else sShI V 6 p q - sCost V p q)
  else sShI V 0 p q - sCost V p q
/-- the question that is asked is sound -/
def MX (V : Vw) : Prop := CX V 0 ∧ CX V 3 ∧ (V 46 50 = 0 ∨ ((V 46 50 = 1 ∨ V 46 50 = 2) ∧ CX V 6 ∧ CX V 9 ∧ (V 46 51 = nI (cN V 46 51) ∧ cN V 46 51 < pN V) ∧ (V 46 52 = nI (cN V 46 52) ∧ cN V 46 52 < tN V)))
variable {V : Vw} {s : Sg}
theorem own_n (h : RM V s) {t : Nat} (ht : t < 3) : V 69 t = nI (cN V 69 t) ∧ cN V 69 t < 16 := by
  have h1 := (h.w.2.2.2.2.2.2.1 t ht).1
  have h2 := p2_le h.p4
  obtain ⟨e, l⟩ := is_n_at h1 (by have := p2_le h.p4; omega)
  exact ⟨e, by unfold cN; omega⟩
theorem m_share6 (h : RM V s) {p q : Nat} (hp : p < pN V) (hq : q < 256) (hC : CX V 6) (hC3 : CX V 9) : f_Mo_shareIn 6 (nI p) (nI q) s = some (sShI V 6 p q, s) := m_shareIn (c := 6) h (by decide) hp hq hC hC3
theorem m_share0 (h : RM V s) {p q : Nat} (hp : p < pN V) (hq : q < 256) (hC : CX V 0) (hC3 : CX V 3) : f_Mo_shareIn 0 (nI p) (nI q) s = some (sShI V 0 p q, s) := m_shareIn (c := 0) h (by decide) hp hq hC hC3
theorem m_isBought_b (h : RM V s) (hM : MX V) (h1 : V 46 50 = 1) {q : Nat} (hq : q < 256) : f_Mo_isBought_b36 (nI q) (sPay V (cN V 46 51)) s = some (if sBought V q = true then 1 else 0, s) := by
  obtain ⟨c0, c3, hm⟩ := hM
  rcases hm with hm | ⟨-, c6, c9, ⟨e51, l51⟩, -⟩
  · rw [h1] at hm; exact absurd hm (by decide)
  have r51 : mI s 46 51 = V 46 51 := h.e 46 51 rfl
  have r53 : mL s 46 53 = mS V := h.2.2.2.2
  unfold f_Mo_isBought_b36
  refine rn_ck h.b ?_
  rw [r51, e51]
  refine rn_bd (m_share6 h l51 hq c6 c9) (rn_ck h.b ?_)
  rw [r51, e51]
  refine rn_bd (m_share0 h l51 hq c0 c3) ?_
  rw [r53]
  show (if lg_cmp (sShI V 6 (cN V 46 51) q - mS V + sPay V (cN V 46 51)) (sShI V 0 (cN V 46 51) q) ≤ 0 then some ((0 : Int32), s) else some ((1 : Int32), s)) = _
  unfold sBought
  by_cases hc : sShI V 6 (cN V 46 51) q - mS V + sPay V (cN V 46 51) ≤ sShI V 0 (cN V 46 51) q
  · rw [if_pos ((lg_cmp_le _ _).mpr hc)]; simp [hc]
  · rw [if_neg (fun h9 => hc ((lg_cmp_le _ _).mp h9))]; simp [hc]
end
