/-! what one has, and the turns: the class -/
section
def KD (W : Vw) (s : Sg) : Prop := mI s 5 4 = W 46 50 ∧ (W 46 50 = 0 ∨ ((W 46 50 = 1 ∨ W 46 50 = 2) ∧ KA W s 26 6 ∧ (mI s 5 5 = W 46 52 ∧ mI s 5 6 = W 46 51 ∧ mI s 5 7 = W 46 53) ∧ is_n (W 46 53) 9999 ∧ (∃ pe, W 46 51 = nI pe ∧ pe < pN W) ∧ (∃ th, W 46 52 = nI th ∧ th < tN W)))
/-- the class looks at the world W -/
def LK (W : Vw) (s : Sg) : Prop := KT W s ∧ KA W s 21 0 ∧ KD W s
variable {W : Vw} {s s' : Sg}
theorem KA.fr {a r : Nat} (h : KA W s a r) (f : KF s s') (ha : a = 21 ∨ a = 26) : KA W s' a r := fun u hu => by
  obtain ⟨e1, e2⟩ := h u hu
  exact ⟨((f.2.2 (a + 3) u (by omega) (by omega)).1).trans e1, ((f.2.2 (a + 4) u (by omega) (by omega)).1).trans e2⟩
theorem KD.fr (h : KD W s) (f : KF s s') : KD W s' := by
  have e := fun k (hk : k ≠ 8) => (f.2.2 5 k (by omega) (by omega)).1
  obtain ⟨h1, h2⟩ := h
  refine ⟨(e 4 (by decide)).trans h1, ?_⟩
  rcases h2 with h2 | ⟨h2, h3, ⟨h4, h5, h6⟩, h7⟩
  · exact Or.inl h2
  · exact Or.inr ⟨h2, h3.fr f (Or.inr rfl), ⟨(e 5 (by decide)).trans h4, (e 6 (by decide)).trans h5, (e 7 (by decide)).trans h6⟩, h7⟩
theorem LK.fr (h : LK W s) (f : KF s s') (k : KT W s') : LK W s' := ⟨k, h.2.1.fr f (Or.inl rfl), h.2.2.fr f⟩
theorem pay_eq {hd k : Nat} (h0 : 0 < hd) (h4 : hd ≤ 4) (hk : k ≤ 9999) : (240 : Int64) / (nI hd).toInt64 * (nI k).toInt64 = 240 * (nI k).toInt64 / (nI hd).toInt64 := by
  rw [nI_l (by omega), nI_l (by omega), show (240 : Int64) = lN 240 from rfl]
  have hq : 240 / hd ≤ 240 := Nat.div_le_self _ _
  have hm : 240 / hd * k ≤ 240 * 9999 := Nat.mul_le_mul hq hk
  rw [pk_lDiv (by decide) h0 (by omega), lN_mul, lN_mul, pk_lDiv (by omega) h0 (by omega)]
  have h9 : hd = 1 ∨ hd = 2 ∨ hd = 3 ∨ hd = 4 := by omega
  congr 1
  rcases h9 with rfl | rfl | rfl | rfl <;> omega
theorem sBits_le4 : ∀ n, n < 16 → sBits n ≤ 4 := by decide
def kPd (W : Vw) (p : Nat) : Int64 := (if W 46 50 = 1 then sPay W p else 0) - sOwe W p
theorem ow_n (hW : WV W) {t : Nat} (ht : t < 3) : W 69 t = nI (cN W 69 t) ∧ cN W 69 t < 16 := by
  have h1 := (hW.2.2.2.2.2.2.1 t ht).1
  have h2 := p2_le hW.1.2
  obtain ⟨e, l⟩ := is_n_at h1 (by omega)
  exact ⟨e, by unfold cN; omega⟩
theorem k_paid46 {p n k : Nat} (hp : p < 4) (hn : n < 16) (hk : k ≤ 9999) (h57 : mI s 5 7 = nI k) (hb : zl_B s) (x : Int64) : f_Tu_paidTo_b46 (nI p) x (nI n) s = some (x + (if n / 2 ^ p % 2 = 1 then 240 * (nI k).toInt64 / (nI (sBits n)).toInt64 else 0), s) := by
  have hs := sBits_le4 n hn
  unfold f_Tu_paidTo_b46
  rw [f_bd_of (bc_16 n hn), bit_at (by omega) (by omega)]
  by_cases c : n / 2 ^ p % 2 = 1
  · have h1 := bits_one n hn p hp c
    rw [if_pos c, c, if_neg (show ¬ nI (sBits n) ≤ 0 from nI_ge (a := 0) h1 (by omega)), if_pos (show nI 1 = 1 from rfl), f_ck_of (l_ne0 h1 (by omega)), f_ck_of hb, h57]
    simp only [pay_eq h1 hs hk]
  · rw [if_neg c, Int64.add_zero, if_neg (show ¬ nI (n / 2 ^ p % 2) = 1 from nI_neq (by omega) (by decide) c)]
    split <;> rfl
theorem k_paidTo (h : LK W s) (h1 : ¬ W 46 50 = 0) {p : Nat} (hp : p < pN W) : f_Tu_paidTo (nI p) s = some (kPd W p, s) := by
  have hp4 := h.1.1.p4
  have ht3 := h.1.1.t3
  have hb := h.1.1.b
  obtain ⟨h54, hm⟩ := h.2.2
  rcases hm with hm | ⟨hmd, hA, ⟨h55, h56, h57⟩, ⟨k, hk, h53⟩, ⟨pe, e51, hpe⟩, ⟨th, e52, hth⟩⟩
  · exact absurd hm h1
  obtain ⟨e69, l69⟩ := ow_n h.1.1.w (show th < 3 by omega)
  have h57' : mI s 5 7 = nI k := h57.trans h53
  have e21 : ∀ x, f_Tu_paidTo_b21 (nI p) x s = some (x + (if W 46 50 = 1 then sPay W p else 0), s) := by
    intro x
    unfold f_Tu_paidTo_b21
    rw [f_ck_of hb, h54, h55, e52]
    by_cases c : W 46 50 = 1
    · rw [if_pos c, if_pos c, f_ck_of (vp_in_nI (by omega) (by decide)), nI_clamp (by omega), h.1.1.ow (by omega), e69, k_paid46 (by omega) l69 hk h57' hb]
      unfold sPay mS
      rw [show cN W 46 52 = th by unfold cN; rw [e52, nI_clamp (by omega)], h53]
    · rw [if_neg c, if_neg c]
      have := k_paid46 (s := s) (p := p) (n := 0) (k := k) (by omega) (by decide) hk h57' hb x
      rw [if_neg (by simp)] at this
      exact this
  unfold f_Tu_paidTo kPd sOwe
  rw [f_ck_of hb, h56, h57]
  by_cases c : nI p = W 46 51
  · rw [if_pos c, if_pos c, e21]
    unfold mS
    rw [show ∀ a b : Int64, (-240) * a + b = b - 240 * a from fun a b => by grind]
  · rw [if_neg c, if_neg c, e21]
    rw [show ∀ b : Int64, 0 + b = b - 0 from fun b => by grind]
/-- whether the thing goes over -/
def kOv (W : Vw) (q : Nat) : Bool := if W 46 50 = 2 then !sPaid W q else sBought W q
theorem k_goesOver (h : LK W s) (h1 : ¬ W 46 50 = 0) {q : Nat} (hq : q < 4 ^ pN W) (hf : mI s 18 q = mI s 6 5) : f_Tu_goesOver (nI q) s = some (b2i (kOv W q), s) := by
  have hp4 := h.1.1.p4
  have hb := h.1.1.b
  have hx := h.2.2
  obtain ⟨h54, hm⟩ := hx
  rcases hm with hm | ⟨hmd, hA, ⟨h55, h56, h57⟩, ⟨k, hk, h53⟩, ⟨pe, e51, hpe⟩, ⟨th, e52, hth⟩⟩
  · exact absurd hm h1
  have ec : cN W 46 51 = pe := by unfold cN; rw [e51, nI_clamp (by omega)]
  unfold f_Tu_goesOver kOv
  rw [f_ck_of hb, h56, e51, f_bd_of (k_shareOf h.1 (Or.inl rfl) h.2.1 hpe hq hf), f_ck_of hb, h54, h57]
  by_cases c : W 46 50 = 2
  · rw [if_pos c, if_pos c]
    unfold sPaid mS
    rw [ec]
    by_cases c2 : sShI W 0 pe q < 240 * (W 46 53).toInt64
    · rw [if_neg (fun h9 => by have := (lg_cmp_ge _ _).mp h9; exact absurd c2 (Int64.not_lt.mpr this))]
      simp [b2i, c2]
    · rw [if_pos ((lg_cmp_ge _ _).mpr (Int64.not_lt.mp c2))]
      simp [b2i, c2]
  · have c1 : W 46 50 = 1 := hmd.resolve_right c
    rw [if_neg c, if_neg c, h56, e51, f_bd_of (k_shareOf h.1 (Or.inr rfl) hA hpe hq hf), f_ck_of hb, h56, e51, f_bd_of (k_paidTo h h1 hpe)]
    unfold sBought kPd sOwe
    rw [if_pos c1, if_pos e51.symm, ec, show ∀ a b c : Int64, a + (b - c) = a - c + b from fun a b c => by grind]
    by_cases c2 : sShI W 6 pe q - mS W + sPay W pe ≤ sShI W 0 pe q
    · rw [if_pos ((lg_cmp_le _ _).mpr c2)]; simp [b2i, c2]
    · rw [if_neg (fun h9 => c2 ((lg_cmp_le _ _).mp h9))]; simp [b2i, c2]
theorem k_held (h : LK W s) {p q : Nat} (hp : p < pN W) (hq : q < 4 ^ pN W) : ∃ s', f_Tu_held (nI p) (nI q) s = some (sHasOf W p q, s') ∧ LK W s' ∧ KF s s' ∧ FLD s' q := by
  have hp4 := h.1.1.p4
  have h256 := p4_le hp4
  obtain ⟨s1, e1, h1, f1, g1⟩ := k_fill h.1 hq
  have hl := h.fr f1 h1
  have hb := h1.1.b
  have hst := sStep_lt q p
  have e86 : ∀ x, f_Tu_held_b86 (nI p) (nI q) x s1 = some (x - sCost W p q, s1) := by
    intro x
    have e4 : nI p * 4 + nI (sStep q p) = nI (4 * p + sStep q p) := by rw [show (4 : Int32) = nI 4 from rfl, nI_mul, nI_add, Nat.mul_comm]
    have e16 : (4 * p + sStep q p) % 16 = 4 * p + sStep q p := Nat.mod_eq_of_lt (by omega)
    unfold f_Tu_held_b86 sCost
    rw [e16, f_ck_of hb, f_bd_of (k_stepIn (by omega) (by omega)), f_ck_of hb, e4, f_ck_of (vp_in_nI (by omega) (by decide)), nI_clamp (by omega), h1.1.co (by omega)]
  refine ⟨s1, ?_, hl, f1, g1⟩
  have hd := hl.2.2
  obtain ⟨h54, hm⟩ := hd
  have e28z : f_Tu_held_b28 (nI p) (nI q) 0 s1 = f_Tu_held_b45 (nI p) (nI q) 0 21 s1 := by
    unfold f_Tu_held_b28
    rw [if_pos rfl, f_ck_of hb]
  have e28o : f_Tu_held_b28 (nI p) (nI q) 1 s1 = f_Tu_held_b45 (nI p) (nI q) 1 26 s1 := by
    unfold f_Tu_held_b28
    rw [if_neg (by decide), f_ck_of hb]
  have z1 : ¬ (1 : Int32) = 0 := by decide
  unfold f_Tu_held f_Tu_held_b27
  rw [f_ck_of h.1.1.b, f_bd_of e1, f_ck_of hb, h54]
  unfold sHasOf
  by_cases c0 : W 46 50 = 0
  · have n1 : ¬ W 46 50 = 1 := by rw [c0]; decide
    have n2 : ¬ W 46 50 = 2 := by rw [c0]; decide
    rw [if_pos c0, e28z, if_neg n1, if_neg n2]
    unfold f_Tu_held_b45 f_Tu_held_b64
    rw [f_ck_of hb, f_bd_of (k_shareOf h1 (Or.inl rfl) hl.2.1 hp hq g1), f_ck_of hb, h54, if_neg n1, f_ck_of hb, if_neg n2, e86]
  · rw [if_neg c0, f_bd_of (k_goesOver hl c0 hq g1)]
    rcases hm with hm | ⟨hmd, hA, -⟩
    · exact absurd hm c0
    have e76 : ∀ x, f_Tu_held_b76 (nI p) (nI q) x s1 = some (x + kPd W p - sCost W p q, s1) := by
      intro x
      unfold f_Tu_held_b76
      rw [f_ck_of hb, f_bd_of (k_paidTo hl c0 hp), e86]
    unfold kOv
    rcases hmd with c1 | c2
    · have n2 : ¬ W 46 50 = 2 := by rw [c1]; decide
      rw [if_neg n2, if_pos c1]
      by_cases co : sBought W q = true
      · rw [co, if_neg (show ¬ b2i true = 0 by decide), if_pos rfl, e28o]
        unfold f_Tu_held_b45
        rw [f_ck_of hb, f_bd_of (k_shareOf h1 (Or.inr rfl) hA hp hq g1), f_ck_of hb, h54, if_pos c1, if_neg z1, e76]
        unfold kPd
        rw [if_pos c1]
        have r9 : ∀ a b c d : Int64, a + (b - c) - d = a + b - c - d := fun a b c d => by grind
        rw [r9]
      · have co' : sBought W q = false := by simpa using co
        rw [co', if_pos (show b2i false = 0 from rfl), if_neg (by decide), e28z]
        unfold f_Tu_held_b45 f_Tu_held_b64
        rw [f_ck_of hb, f_bd_of (k_shareOf h1 (Or.inl rfl) hl.2.1 hp hq g1), f_ck_of hb, h54, if_pos c1, if_pos rfl, f_ck_of hb, if_neg n2, e86]
    · have n1 : ¬ W 46 50 = 1 := by rw [c2]; decide
      rw [if_pos c2, if_neg n1, if_pos c2]
      by_cases co : sPaid W q = true
      · rw [co, if_pos (show b2i (!true) = 0 from rfl), if_pos rfl, e28z]
        unfold f_Tu_held_b45 f_Tu_held_b64
        rw [f_ck_of hb, f_bd_of (k_shareOf h1 (Or.inl rfl) hl.2.1 hp hq g1), f_ck_of hb, h54, if_neg n1, f_ck_of hb, if_pos c2, if_pos rfl, e76]
        unfold kPd
        rw [if_neg n1]
        have r9 : ∀ a c d : Int64, a + (0 - c) - d = a - c - d := fun a c d => by grind
        rw [r9]
      · have co' : sPaid W q = false := by simpa using co
        rw [co', if_neg (show ¬ b2i (!false) = 0 by decide), if_neg (by decide), e28o]
        unfold f_Tu_held_b45 f_Tu_held_b64
        rw [f_ck_of hb, f_bd_of (k_shareOf h1 (Or.inr rfl) hA hp hq g1), f_ck_of hb, h54, if_neg n1, f_ck_of hb, if_pos c2, if_neg z1, e86]
end
