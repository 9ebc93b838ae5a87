/-! what one has of it, and would do: the model -/
section
def sWldL (V : Vw) (p q : Nat) : Nat → Nat → Nat → Int64 → Nat
  | 0, _, b, _ => b
  | k + 1, st, b, m => if sHasOf V p (sTk q p st) ≤ m then sWldL V p q k (st + 1) b m else sWldL V p q k (st + 1) st (sHasOf V p (sTk q p st))
def sWld (V : Vw) (p q : Nat) : Nat := sWldL V p q (sN V p) 1 0 (sHasOf V p (sTk q p 0))
def sStays (V : Vw) (p q : Nat) : Bool := decide (sHasOf V p (sTk q p (sWld V p q)) = sHasOf V p q)
def sRestS (V : Vw) (q : Nat) : Bool := sAll (fun p => sStays V p q) (pN V) 0
theorem l_ne0 {b : Nat} (h0 : 0 < b) (hb : b < 2 ^ 31) : ¬ (nI b).toInt64 = 0 := by
  intro e
  have h1 := congrArg Int64.toInt e
  rw [Int32.toInt_toInt64, nI_toInt hb] at h1
  have h2 : (0 : Int64).toInt = 0 := by decide
  rw [h2] at h1
  omega
theorem bits_one : ∀ w, w < 16 → ∀ p, p < 4 → w / 2 ^ p % 2 = 1 → 0 < sBits w := by decide
theorem sBits_le (m : Nat) : sBits m ≤ 8 := by unfold sBits; omega
variable {V : Vw} {s : Sg}
theorem m_isBought (h : RM V s) (hM : MX V) (h1 : V 46 50 = 1) {q : Nat} (hq : q < 256) : f_Mo_isBought (nI q) s = some (if sBought V q = true then 1 else 0, s) := by
  have hb := m_isBought_b h hM h1 hq
  obtain ⟨c0, c3, hm⟩ := hM
  rcases hm with hm | ⟨-, c6, c9, ⟨e51, l51⟩, ⟨e52, l52⟩⟩
  · rw [h1] at hm; exact absurd hm (by decide)
  have hp4 := h.p4
  have ht3 := h.t3
  have r51 : mI s 46 51 = V 46 51 := h.e 46 51 rfl
  have r52 : mI s 46 52 = V 46 52 := h.e 46 52 rfl
  have r53 : mL s 46 53 = mS V := h.2.2.2.2
  have r69 : mI s 69 (cN V 46 52) = V 69 (cN V 46 52) := h.ar 69 rfl
  obtain ⟨e69, l69⟩ := own_n h (show cN V 46 52 < 3 by omega)
  unfold f_Mo_isBought
  refine rn_ck h.b ?_
  rw [r51, r52, e52, nI_clamp (by omega), r69, e69, e51, r53]
  refine rn_ck (vp_in_nI (by omega) (by decide)) ?_
  rw [bit_at (by omega) (by omega)]
  unfold sPay at hb
  by_cases hc : cN V 69 (cN V 46 52) / 2 ^ cN V 46 51 % 2 = 1
  · rw [if_pos hc] at hb
    rw [hc, if_pos (show nI 1 = 1 from rfl)]
    have hb1 := bits_one _ l69 (cN V 46 51) (by omega) hc
    have hb2 := sBits_le (cN V 69 (cN V 46 52))
    exact rn_bd (m_bits (by omega)) (rn_ck (l_ne0 hb1 (by omega)) hb)
  · rw [if_neg hc] at hb
    rw [if_neg (show ¬ nI (cN V 69 (cN V 46 52) / 2 ^ cN V 46 51 % 2) = 1 from nI_neq (by omega) (by decide) hc)]
    exact hb
theorem m_isPaid (h : RM V s) (hM : MX V) (h1 : V 46 50 = 2) {q : Nat} (hq : q < 256) : f_Mo_isPaid (nI q) s = some (if sPaid V q = true then 1 else 0, s) := by
  obtain ⟨c0, c3, hm⟩ := hM
  rcases hm with hm | ⟨-, c6, c9, ⟨e51, l51⟩, -⟩
  · rw [h1] at hm; exact absurd hm (by decide)
  have r51 : mI s 46 51 = V 46 51 := h.e 46 51 rfl
  have r53 : mL s 46 53 = mS V := h.2.2.2.2
  unfold f_Mo_isPaid
  refine rn_ck h.b ?_
  rw [r51, e51]
  refine rn_bd (m_share0 h l51 hq c0 c3) (rn_ck h.b ?_)
  rw [r53]
  unfold sPaid
  by_cases hc : sShI V 0 (cN V 46 51) q < mS V
  · rw [if_pos ((lg_cmp_lt _ _).mpr hc)]; simp [hc]
  · rw [if_neg (fun h9 => hc ((lg_cmp_lt _ _).mp h9))]; simp [hc]
theorem m_hasOf_b106 (h : RM V s) (hM : MX V) {p q : Nat} (hp : p < pN V) (hq : q < 256) (c : Int64) : f_Mo_hasOf_b106 (nI p) (nI q) c s = some (if V 46 50 = 2 then (if sPaid V q = true then sShI V 0 p q - sOwe V p - c else sShI V 6 p q - c) else sShI V 0 p q - c, s) := by
  have hM9 := hM
  obtain ⟨c0, c3, hm⟩ := hM
  have r50 : mI s 46 50 = V 46 50 := h.e 46 50 rfl
  have r51 : mI s 46 51 = V 46 51 := h.e 46 51 rfl
  have r53 : mL s 46 53 = mS V := h.2.2.2.2
  unfold f_Mo_hasOf_b106
  refine rn_ck h.b ?_
  rw [r50]
  by_cases h2 : V 46 50 = 2
  · rw [if_pos h2, if_pos h2]
    rcases hm with hm | ⟨-, c6, c9, -, -⟩
    · rw [h2] at hm; exact absurd hm (by decide)
    refine rn_bd (m_isPaid h hM9 h2 hq) ?_
    by_cases hc : sPaid V q = true
    · rw [if_pos hc, if_pos hc, if_neg (by decide)]
      refine rn_ck h.b (rn_bd (m_share0 h hp hq c0 c3) (rn_ck h.b ?_))
      rw [r51, r53]
      unfold f_Mo_hasOf_b145 sOwe
      by_cases h3 : nI p = V 46 51
      · rw [if_pos h3, if_pos h3]
      · rw [if_neg h3, if_neg h3]
    · rw [if_neg hc, if_neg hc, if_pos rfl]
      exact rn_ck h.b (rn_bd (m_share6 h hp hq c6 c9) rfl)
  · rw [if_neg h2, if_neg h2]
    exact rn_bd (m_share0 h hp hq c0 c3) rfl
theorem m_hasOf (h : RM V s) (hM : MX V) {p q : Nat} (hp : p < pN V) (hq : q < 256) : f_Mo_hasOf (nI p) (nI q) s = some (sHasOf V p q, s) := by
  have hp4 := h.p4
  have ht3 := h.t3
  have hst := sStep_lt q p
  have hM9 := hM
  obtain ⟨c0, c3, hm⟩ := hM
  have r50 : mI s 46 50 = V 46 50 := h.e 46 50 rfl
  have r51 : mI s 46 51 = V 46 51 := h.e 46 51 rfl
  have r52 : mI s 46 52 = V 46 52 := h.e 46 52 rfl
  have r53 : mL s 46 53 = mS V := h.2.2.2.2
  have r69 : mI s 69 (cN V 46 52) = V 69 (cN V 46 52) := h.ar 69 rfl
  have e4 : (4 : Int32) * nI p + nI (sStep q p) = nI (4 * p + sStep q p) := by rw [show (4 : Int32) = nI 4 from rfl, nI_mul, nI_add]
  have hb := fun c => m_hasOf_b106 h hM9 hp hq c
  unfold f_Mo_hasOf
  refine rn_ck h.b (rn_bd (m_stepOf hq (by omega)) (rn_ck h.b ?_))
  rw [e4]
  refine rn_ck (vp_in_nI (by omega) (by decide)) ?_
  have e16 : (4 * p + sStep q p) % 16 = 4 * p + sStep q p := Nat.mod_eq_of_lt (by omega)
  rw [nI_clamp (by omega), h.co (by omega), r50, ← e16]
  show (if V 46 50 = 1 then _ else f_Mo_hasOf_b106 (nI p) (nI q) (sCost V p q) s) = _
  unfold sHasOf
  by_cases h1 : V 46 50 = 1
  · rw [if_pos h1, if_pos h1]
    rcases hm with hm | ⟨-, c6, c9, ⟨e51, l51⟩, ⟨e52, l52⟩⟩
    · rw [h1] at hm; exact absurd hm (by decide)
    obtain ⟨e69, l69⟩ := own_n h (show cN V 46 52 < 3 by omega)
    refine rn_bd (m_isBought h hM9 h1 hq) ?_
    by_cases hc : sBought V q = true
    · rw [if_pos hc, if_pos hc, if_neg (by decide)]
      refine rn_ck h.b ?_
      rw [r52, e52, nI_clamp (by omega), r69, e69, r53]
      refine rn_ck (vp_in_nI (by omega) (by decide)) ?_
      rw [bit_at (by omega) (by omega)]
      have hb73 : ∀ y : Int64, f_Mo_hasOf_b73 (nI p) (nI q) (sCost V p q) y s = some (sShI V 6 p q + y - sOwe V p - sCost V p q, s) := by
        intro y
        unfold f_Mo_hasOf_b73
        refine rn_ck h.b (rn_bd (m_share6 h hp hq c6 c9) (rn_ck h.b ?_))
        rw [r51, r53]
        unfold f_Mo_hasOf_b102 sOwe
        by_cases h3 : nI p = V 46 51
        · rw [if_pos h3, if_pos h3]
        · rw [if_neg h3, if_neg h3]
      unfold sPay
      by_cases hc2 : cN V 69 (cN V 46 52) / 2 ^ p % 2 = 1
      · rw [if_pos hc2, hc2, if_pos (show nI 1 = 1 from rfl)]
        have hb1 := bits_one _ l69 p (by omega) hc2
        have hb2 := sBits_le (cN V 69 (cN V 46 52))
        exact rn_bd (m_bits (by omega)) (rn_ck (l_ne0 hb1 (by omega)) (hb73 _))
      · rw [if_neg hc2, if_neg (show ¬ nI (cN V 69 (cN V 46 52) / 2 ^ p % 2) = 1 from nI_neq (by omega) (by decide) hc2)]
        exact hb73 _
    · rw [if_neg hc, if_neg hc, if_pos rfl, hb, if_neg (by rw [h1]; decide)]
      rfl
  · rw [if_neg h1, if_neg h1, hb]
theorem m_takes {q p st : Nat} (hq : q < 256) (hp : p < 4) (hst : st < 4) : f_Mo_takes (nI q) (nI p) (nI st) s = some (nI (sTk q p st), s) := by
  unfold f_Mo_takes
  rw [tk_bits hq hp hst]
theorem sN_le (h : RM V s) {p : Nat} (hp : p < pN V) : sN V p ≤ 3 := (h.w.2.2.2.1 p hp).2.2
theorem m_wouldOf_h (h : RM V s) (hM : MX V) {p q : Nat} (hp : p < pN V) (hq : q < 256) : ∀ (k st n b : Nat) (m : Int64), st + k = sN V p + 1 → k < n → f_Mo_wouldOf_h19 n (nI p) (nI q) (nI b) m (nI st) s = some (nI (sWldL V p q k st b m), s) := by
  have hp4 := h.p4
  have h3 := sN_le h hp
  intro k
  induction k with
  | zero =>
    intro st n b m hs hn
    obtain ⟨n, rfl⟩ : ∃ m, n = m + 1 := ⟨n - 1, by omega⟩
    show f_Mo_wouldOf_b19 _ _ _ _ _ _ _ = _
    unfold f_Mo_wouldOf_b19
    refine rn_ck h.b (rn_ck (vp_in_nI (by omega) (by decide)) (rn_T ?_ rfl))
    rw [nI_clamp (by omega), h.st hp]
    exact nI_lt (by omega) (by omega)
  | succ k ih =>
    intro st n b m hs hn
    obtain ⟨n, rfl⟩ : ∃ m, n = m + 1 := ⟨n - 1, by omega⟩
    show f_Mo_wouldOf_b19 _ _ _ _ _ _ _ = some (nI (if sHasOf V p (sTk q p st) ≤ m then _ else _), s)
    unfold f_Mo_wouldOf_b19
    refine rn_ck h.b (rn_ck (vp_in_nI (by omega) (by decide)) (rn_F ?_ (rn_bd (m_takes hq (by omega) (by omega)) (rn_ck h.b (rn_bd (m_hasOf h hM hp (tk_lt hq (by omega) (by omega))) ?_)))))
    · rw [nI_clamp (by omega), h.st hp]
      exact nI_nlt (by omega) (by omega)
    unfold f_Mo_wouldOf_b59 f_Mo_wouldOf_b75
    rw [nI_1]
    by_cases hc : sHasOf V p (sTk q p st) ≤ m
    · rw [if_pos ((lg_cmp_le _ _).mpr hc), if_pos ((lg_cmp_le _ _).mpr hc), if_pos hc]
      exact ih (st + 1) n b m (by omega) (by omega)
    · rw [if_neg (fun h9 => hc ((lg_cmp_le _ _).mp h9)), if_neg (fun h9 => hc ((lg_cmp_le _ _).mp h9)), if_neg hc]
      exact ih (st + 1) n st _ (by omega) (by omega)
theorem m_wouldOf (h : RM V s) (hM : MX V) {p q : Nat} (hp : p < pN V) (hq : q < 256) : f_Mo_wouldOf (nI p) (nI q) s = some (nI (sWld V p q), s) := by
  have hp4 := h.p4
  have h3 := sN_le h hp
  unfold f_Mo_wouldOf
  refine rn_ck h.b (rn_bd (show f_Mo_takes (nI q) (nI p) (nI 0) s = _ from m_takes hq (by omega) (by decide)) (rn_ck h.b (rn_bd (m_hasOf h hM hp (tk_lt hq (by omega) (by decide))) ?_)))
  exact m_wouldOf_h h hM hp hq (sN V p) 1 zl_fl 0 _ (by omega) (zl_fl_lt (by omega))
theorem sWldL_le (V : Vw) (p q : Nat) : ∀ (k st b : Nat) (m : Int64), b < st + k → sWldL V p q k st b m < st + k := by
  intro k
  induction k with
  | zero => intro st b m hb; exact hb
  | succ k ih =>
    intro st b m hb
    show (if _ then _ else _) < _
    split
    · have := ih (st + 1) b m (by omega); omega
    · have := ih (st + 1) st (sHasOf V p (sTk q p st)) (by omega); omega
theorem sWld_le (V : Vw) (p q : Nat) : sWld V p q ≤ sN V p := by
  have := sWldL_le V p q (sN V p) 1 0 (sHasOf V p (sTk q p 0)) (by omega)
  unfold sWld
  omega
theorem m_stays (h : RM V s) (hM : MX V) {p q : Nat} (hp : p < pN V) (hq : q < 256) : f_Mo_stays (nI p) (nI q) s = some (if sStays V p q = true then 1 else 0, s) := by
  have hp4 := h.p4
  have h3 := sN_le h hp
  have hw := sWld_le V p q
  unfold f_Mo_stays
  refine rn_ck h.b (rn_bd (m_wouldOf h hM hp hq) (rn_ck h.b (rn_bd (m_takes hq (by omega) (by omega)) (rn_ck h.b (rn_bd (m_hasOf h hM hp (tk_lt hq (by omega) (by omega))) (rn_ck h.b (rn_bd (m_hasOf h hM hp hq) ?_)))))))
  unfold sStays
  by_cases hc : sHasOf V p (sTk q p (sWld V p q)) = sHasOf V p q
  · rw [if_pos ((lg_cmp_eq _ _).mpr hc)]; simp [hc]
  · rw [if_neg (fun h9 => hc ((lg_cmp_eq _ _).mp h9))]; simp [hc]
theorem m_rest_h (h : RM V s) (hM : MX V) {q : Nat} (hq : q < 256) : ∀ (k p n : Nat), p + k = pN V → k < n → f_Mo_areAtRest_h2 n (nI q) (nI p) s = some (if sAll (fun p => sStays V p q) k p = true then 1 else 0, s) := by
  have hp4 := h.p4
  intro k
  induction k with
  | zero =>
    intro p n hs hn
    obtain ⟨n, rfl⟩ : ∃ m, n = m + 1 := ⟨n - 1, by omega⟩
    show f_Mo_areAtRest_b2 _ _ _ _ = _
    unfold f_Mo_areAtRest_b2
    refine rn_ck h.b (rn_T ?_ rfl)
    rw [h.pe]; exact nI_le (by omega) (by omega)
  | succ k ih =>
    intro p n hs hn
    obtain ⟨n, rfl⟩ : ∃ m, n = m + 1 := ⟨n - 1, by omega⟩
    show f_Mo_areAtRest_b2 _ _ _ _ = _
    unfold f_Mo_areAtRest_b2
    refine rn_ck h.b (rn_F ?_ (rn_bd (m_stays h hM (by omega) hq) ?_))
    · rw [h.pe]; exact nI_ge (by omega) (by omega)
    rw [nI_1]
    by_cases hc : sStays V p q = true
    · rw [if_pos hc, if_neg (by decide), ih (p + 1) n (by omega) (by omega)]
      simp [sAll, hc]
    · rw [if_neg hc, if_pos rfl]
      simp [sAll, hc]
theorem m_areAtRest (h : RM V s) (hM : MX V) {q : Nat} (hq : q < 256) : f_Mo_areAtRest (nI q) s = some (if sRestS V q = true then 1 else 0, s) := by
  have hp4 := h.p4
  unfold f_Mo_areAtRest
  exact m_rest_h h hM hq (pN V) 0 zl_fl (by omega) (zl_fl_lt (by omega))
end
