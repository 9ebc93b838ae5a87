/-! the good, and the turns from the start: the model -/
section
def sGoodL (V : Vw) (q : Nat) : Nat → Nat → Int32 → Int32
  | 0, _, n => n
  | k + 1, p, n => sGoodL V q k (p + 1) (n - V 50 ((4 * p + sStep q p) % 16))
def sGood (V : Vw) (q : Nat) : Int32 := sGoodL V q (pN V) 0 (sWo V (nI (2 ^ pN V - 1)) (nI (2 ^ tN V - 1)) q)
variable {V : Vw} {s : Sg}
theorem m_goodOf_h (h : RM V s) {q : Nat} (hq : q < 256) : ∀ (k p n : Nat) (a : Int32), p + k = pN V → k < n → f_Mo_goodOf_h24 n (nI q) a (nI p) s = some (sGoodL V q k p a, s) := by
  have hp4 := h.p4
  intro k
  induction k with
  | zero =>
    intro p n a hp hn
    obtain ⟨n, rfl⟩ : ∃ m, n = m + 1 := ⟨n - 1, by omega⟩
    show f_Mo_goodOf_b24 _ _ _ _ _ = _
    unfold f_Mo_goodOf_b24
    refine rn_ck h.b (rn_T ?_ rfl)
    rw [h.pe]; exact nI_le (by omega) (by omega)
  | succ k ih =>
    intro p n a hp hn
    obtain ⟨n, rfl⟩ : ∃ m, n = m + 1 := ⟨n - 1, by omega⟩
    have hst := sStep_lt q p
    have e4 : (4 : Int32) * nI p + nI (sStep q p) = nI (4 * p + sStep q p) := by rw [show (4 : Int32) = nI 4 from rfl, nI_mul, nI_add]
    show f_Mo_goodOf_b24 _ _ _ _ _ = _
    unfold f_Mo_goodOf_b24
    refine rn_ck h.b (rn_F ?_ (rn_bd (m_stepOf hq (by omega)) (rn_ck h.b ?_)))
    · rw [h.pe]; exact nI_ge (by omega) (by omega)
    rw [e4]
    refine rn_ck (vp_in_nI (by omega) (by decide)) ?_
    have e16 : (4 * p + sStep q p) % 16 = 4 * p + sStep q p := Nat.mod_eq_of_lt (by omega)
    rw [nI_clamp (by omega), h.co (by omega), nI_1, ← e16]
    exact ih (p + 1) n _ (by omega) (by omega)
theorem m_all (h : RM V s) : ((1 : Int32) <<< ((mI s 46 10) &&& 31)) - 1 = nI (2 ^ pN V - 1) := by
  rw [h.pe, shl_p _ (by have := h.p4; omega)]
  obtain ⟨m, hm⟩ : ∃ m, 2 ^ pN V = m + 1 := ⟨2 ^ pN V - 1, by have := @Nat.one_le_two_pow (pN V); omega⟩
  rw [hm, nI_pred]; rfl
theorem m_allT (h : RM V s) : ((1 : Int32) <<< ((mI s 46 11) &&& 31)) - 1 = nI (2 ^ tN V - 1) := by
  rw [h.th, shl_p _ (by have := h.t3; omega)]
  obtain ⟨m, hm⟩ : ∃ m, 2 ^ tN V = m + 1 := ⟨2 ^ tN V - 1, by have := @Nat.one_le_two_pow (tN V); omega⟩
  rw [hm, nI_pred]; rfl
theorem m_goodOf (h : RM V s) {q : Nat} (hq : q < 256) : f_Mo_goodOf (nI q) s = some (sGood V q, s) := by
  have hp4 := h.p4
  unfold f_Mo_goodOf
  refine rn_ck h.b ?_
  rw [m_all h, m_allT h]
  refine rn_bd (m_worthOf h hq _ _) ?_
  exact m_goodOf_h h hq (pN V) 0 zl_fl _ (by omega) (zl_fl_lt (by omega))
def sFar (V : Vw) (kp q : Nat) : Option (Nat × Nat) := sOut V kp 30 1 q
theorem m_turns_b13 (h : RM V s) (hM : MX V) {x1 : Int32} {kp : Nat} (hk : ∀ p, p < pN V → (nI p = x1 ↔ p = kp)) {q : Nat} (hq : q < 256) :
    ∃ s', f_Mo_turnsOut_b13 x1 (nI q) s = some (oI (sFar V kp q), s') ∧ RM V s' ∧ FM s s' ∧ (∀ t, sFar V kp q = some t → mI s' 46 54 = nI t.2 ∧ t.1 < 256) := by
  have h2 : RM V (uI s 46 54 1) := h.sc 46 54 _ rfl
  obtain ⟨s', e1, e2, e3, e4⟩ := m_turns_out hM hk 30 1 q zl_fl _ h2 (mI_at _ _ _ _) (by decide) hq (zl_fl_lt (by decide))
  refine ⟨s', ?_, e2, (FM.uI s _ (by omega)).trans e3, e4⟩
  unfold f_Mo_turnsOut_b13
  exact rn_ck h.b e1
theorem m_turnsOut (h : RM V s) (hM : MX V) : ∃ s', f_Mo_turnsOut (-1) 0 s = some (oI (sFar V 99 0), s') ∧ RM V s' ∧ FM s s' ∧ (∀ t, sFar V 99 0 = some t → mI s' 46 54 = nI t.2 ∧ t.1 < 256) := by
  have hp4 := h.p4
  have hk : ∀ p, p < pN V → (nI p = (-1 : Int32) ↔ p = 99) := fun p hp => ⟨fun e => by
    have h1 := nI_pos (n := p) (by omega)
    rw [e] at h1
    exact absurd (by decide) h1, fun e => by omega⟩
  unfold f_Mo_turnsOut
  rw [if_neg (by decide)]
  exact m_turns_b13 h hM hk (q := 0) (by decide)
theorem m_turnsOutK (h : RM V s) (hM : MX V) {kp st : Nat} (hkp : kp < pN V) (hst : st < 4) : ∃ s', f_Mo_turnsOut (nI kp) (nI st) s = some (oI (sFar V kp (st * 4 ^ kp)), s') ∧ RM V s' ∧ FM s s' ∧ (∀ t, sFar V kp (st * 4 ^ kp) = some t → mI s' 46 54 = nI t.2 ∧ t.1 < 256) := by
  have hp4 := h.p4
  have hk : ∀ p, p < pN V → (nI p = nI kp ↔ p = kp) := fun p hp => nI_eq (by omega) (by omega)
  have h4 : kp = 0 ∨ kp = 1 ∨ kp = 2 ∨ kp = 3 := by omega
  have he : nI st <<< ((2 * nI kp) &&& 31) = nI (st * 4 ^ kp) ∧ st * 4 ^ kp < 256 := by
    rcases h4 with rfl | rfl | rfl | rfl
    · exact ⟨pk_shlN _ 0 (by decide) (by omega), by omega⟩
    · exact ⟨pk_shlN _ 2 (by decide) (by omega), by omega⟩
    · exact ⟨pk_shlN _ 4 (by decide) (by omega), by omega⟩
    · exact ⟨pk_shlN _ 6 (by decide) (by omega), by omega⟩
  unfold f_Mo_turnsOut
  rw [if_pos (nI_pos' (by omega)), he.1]
  exact m_turns_b13 h hM hk he.2
end
