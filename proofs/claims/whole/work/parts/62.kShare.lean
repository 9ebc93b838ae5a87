/-! shares: the class -/
section
/-- what a set makes, in tenths -/
def mdL (W : Vw) (r u q : Nat) : Int64 := (10 - W 46 45).toInt64 * (sMk W r u q).toInt64 + (W 46 45).toInt64 * (sMk W (r + 3) u q).toInt64
/-- an owning that the class looks at -/
def KA (W : Vw) (s : Sg) (a r : Nat) : Prop := ∀ u, u < 2 ^ pN W → mI s (a + 3) u = nI (sHas W r u) ∧ mI s (a + 4) u = nI (sHas W (r + 3) u)
theorem ow_ok {s : Sg} (hb : zl_B s) {a : Nat} (ha : a = 21 ∨ a = 26) : zl_at s a 0 ∧ (mR s a 0 = some (a + 1) ∧ mR s a 1 = some (a + 2) ∧ mR s a 2 = some (a + 3) ∧ mR s a 3 = some (a + 4)) ∧ zl_ar s (a + 1) 10 3 ∧ zl_ar s (a + 2) 10 3 ∧ zl_ar s (a + 3) 10 16 ∧ zl_ar s (a + 4) 10 16 := by
  have hn := hb.1
  rcases ha with rfl | rfl
  · exact ⟨⟨by decide, by omega, by decide, by decide⟩, ⟨hb.2 _ _ _ (by decide) (by decide), hb.2 _ _ _ (by decide) (by decide), hb.2 _ _ _ (by decide) (by decide), hb.2 _ _ _ (by decide) (by decide)⟩, ⟨by decide, by omega, by decide, by decide, by decide⟩, ⟨by decide, by omega, by decide, by decide, by decide⟩, ⟨by decide, by omega, by decide, by decide, by decide⟩, ⟨by decide, by omega, by decide, by decide, by decide⟩⟩
  · exact ⟨⟨by decide, by omega, by decide, by decide⟩, ⟨hb.2 _ _ _ (by decide) (by decide), hb.2 _ _ _ (by decide) (by decide), hb.2 _ _ _ (by decide) (by decide), hb.2 _ _ _ (by decide) (by decide)⟩, ⟨by decide, by omega, by decide, by decide, by decide⟩, ⟨by decide, by omega, by decide, by decide, by decide⟩, ⟨by decide, by omega, by decide, by decide, by decide⟩, ⟨by decide, by omega, by decide, by decide, by decide⟩⟩
theorem sHasL_lt (W : Vw) (r u : Nat) : ∀ (k t a : Nat), a < 2 ^ t → sHasL W r u k t a < 2 ^ (t + k) := by
  intro k
  induction k with
  | zero => intro t a ha; exact ha
  | succ k ih =>
    intro t a ha
    have h1 : a ||| (if sHo W r u t = true then 2 ^ t else 0) < 2 ^ (t + 1) := by
      refine Nat.or_lt_two_pow (by rw [Nat.pow_succ]; omega) ?_
      split
      · rw [Nat.pow_succ]; have := Nat.two_pow_pos t; omega
      · exact Nat.two_pow_pos _
    have := ih (t + 1) _ h1
    rw [show t + (k + 1) = t + 1 + k by omega]
    exact this
theorem sHas_lt (W : Vw) (r u : Nat) : sHas W r u < 2 ^ tN W := by
  have := sHasL_lt W r u (tN W) 0 0 (by decide)
  rw [Nat.zero_add] at this
  exact this
variable {W : Vw} {s : Sg}
theorem p8 (h : KB W s) : 2 ^ tN W ≤ 8 := by
  have h4 : tN W = 0 ∨ tN W = 1 ∨ tN W = 2 ∨ tN W = 3 := by have := h.t3; omega
  rcases h4 with e | e | e | e <;> rw [e] <;> decide
theorem k_row (h : KT W s) {q u r : Nat} (hq : q < 4 ^ pN W) (hf : mI s 18 q = mI s 6 5) (hu : u < 2 ^ pN W) : mI s 17 (q * 128 + (sHas W r u * 16 + u)) = sMk W r u q := h.2.1 q hq hf _ (sHas_lt W r u) u hu
theorem k_made (h : KT W s) {a r : Nat} (ha : a = 21 ∨ a = 26) (hA : KA W s a r) {q u : Nat} (hq : q < 4 ^ pN W) (hf : mI s 18 q = mI s 6 5) (hu : u < 2 ^ pN W) : f_Tu_made a (nI u) (nI q) s = some (mdL W r u q, s) := by
  obtain ⟨o1, ⟨r0, r1, r2, r3⟩, a1, a2, a3, a4⟩ := ow_ok h.1.b ha
  have h256 := p4_le h.1.p4
  have h16 := p2_le h.1.p4
  have h8 := p8 h.1
  have l1 := sHas_lt W r u
  have l2 := sHas_lt W (r + 3) u
  obtain ⟨e1, e2⟩ := hA u hu
  have i16 : vp_in (nI u) 16 := vp_in_nI (by omega) (by decide)
  have ex : ∀ x, x < 8 → ((nI q <<< ((7 : Int32) &&& 31)) ||| nI u) ||| (nI x <<< ((4 : Int32) &&& 31)) = nI (q * 128 + (x * 16 + u)) := by
    intro x hx
    rw [shl4 hx, shl7 (by omega), nI_or, nI_or, Nat.or_assoc, Nat.or_comm u, or_16 x hx u (by omega), or_128 (by omega)]
  unfold f_Tu_made
  simp only [f_ck_of h.1.b, f_ck_of o1, f_ck_of r2, f_ck_of r3, f_ck_of a3, f_ck_of a4, f_ck_of i16, nI_clamp (show u < 2 ^ 31 by omega), e1, e2, ex _ (show sHas W r u < 8 by omega), ex _ (show sHas W (r + 3) u < 8 by omega), f_ck_of (vp_in_nI (show q * 128 + (sHas W r u * 16 + u) < 32768 by omega) (by decide)), f_ck_of (vp_in_nI (show q * 128 + (sHas W (r + 3) u * 16 + u) < 32768 by omega) (by decide)), nI_clamp (show q * 128 + (sHas W r u * 16 + u) < 2 ^ 31 by omega), nI_clamp (show q * 128 + (sHas W (r + 3) u * 16 + u) < 2 ^ 31 by omega), k_row h hq hf hu, h.1.te]
  unfold mdL
  by_cases c : W 46 45 ≤ 0
  · rw [if_pos c]
    obtain ⟨k, hk, e⟩ := h.1.w.2.2.2.2.2.2.2.1
    have hk0 : k = 0 := by
      rw [e] at c
      have := (nI_leI (b := 0) (by omega) (by decide)).mp c
      omega
    rw [e, hk0]
    have e0 : (nI 0).toInt64 = 0 := by decide
    rw [e0, Int64.zero_mul, Int64.add_zero]
  · rw [if_neg c]
/-- weights of orders, of 24 -/
theorem wt_ok : ∀ pn, pn < 5 → 0 < pn → ∀ b, b < pn → ((pn - 1) * 4 + b < 16) ∧ (zs_or ((pn - 1) * 4 + b)).toInt64 = (nI (sOrd b)).toInt64 * (nI (sOrd (pn - 1 - b))).toInt64 * (24 / nI (sOrd pn)).toInt64 := by decide +kernel
theorem ring_step (x y A0 A1 B0 B1 f o1 o2 p q : Int64) : (x * (p * f) + y * (q * f)) + o1 * o2 * f * ((x * A1 + y * B1) - (x * A0 + y * B0)) = x * ((p + (A1 - A0) * o1 * o2) * f) + y * ((q + (B1 - B0) * o1 * o2) * f) := by grind
theorem ring_even (x y A0 B0 R S f : Int64) : 24 * (x * A0 + y * B0) + f * (x * R + y * S) = x * (24 * A0 + R * f) + y * (24 * B0 + S * f) := by grind
theorem ring_one (x y A0 B0 : Int64) : 24 * (x * A0 + y * B0) = x * (24 * A0) + y * (24 * B0) := by grind
theorem ring_sub (x y l m A B : Int64) : (x * l + y * m) - (x * A + y * B) = x * (l - A) + y * (m - B) := by grind
theorem k_share_all (h : KT W s) {a r : Nat} (ha : a = 21 ∨ a = 26) (hA : KA W s a r) {p q : Nat} (hp : p < pN W) (hq : q < 4 ^ pN W) (hf : mI s 18 q = mI s 6 5) : ∀ (k u n : Nat) (A B : Int64), u + k = 2 ^ pN W → k < n → f_Tu_shareOf_h38 n a (nI p) (nI q) (nI (2 ^ pN W - 1)) (nI (pN W)) ((10 - W 46 45).toInt64 * (A * (24 / nI (sOrd (pN W))).toInt64) + (W 46 45).toInt64 * (B * (24 / nI (sOrd (pN W))).toInt64)) (nI u) s =
    some ((10 - W 46 45).toInt64 * (sAllO W r p q k u A * (24 / nI (sOrd (pN W))).toInt64) + (W 46 45).toInt64 * (sAllO W (r + 3) p q k u B * (24 / nI (sOrd (pN W))).toInt64), s) := by
  have hp4 := h.1.p4
  have h16 := p2_le hp4
  have h1p : 1 ≤ 2 ^ pN W := Nat.one_le_two_pow
  intro k
  induction k with
  | zero =>
    intro u n A B hu hn
    obtain ⟨n, rfl⟩ : ∃ m, n = m + 1 := ⟨n - 1, by omega⟩
    show f_Tu_shareOf_b38 _ _ _ _ _ _ _ _ _ = _
    unfold f_Tu_shareOf_b38
    rw [if_pos (nI_lt (by omega) (by omega))]
    rfl
  | succ k ih =>
    intro u n A B hu hn
    obtain ⟨n, rfl⟩ : ∃ m, n = m + 1 := ⟨n - 1, by omega⟩
    show f_Tu_shareOf_b38 _ _ _ _ _ _ _ _ _ = _
    unfold f_Tu_shareOf_b38 f_Tu_shareOf_b102
    rw [if_neg (nI_nlt (by omega) (by omega)), bit_at (by omega) (by omega), nI_1]
    unfold sAllO
    by_cases c1 : u / 2 ^ p % 2 = 1
    · rw [if_pos c1, if_pos c1, c1, if_neg (show ¬ nI 1 = 0 by decide)]
      exact ih (u + 1) n A B (by omega) (by omega)
    · have hb := bits_room _ hp4 p hp u (by omega) c1
      have ho : u ||| 2 ^ p < 2 ^ pN W := Nat.or_lt_two_pow (by omega) (Nat.pow_lt_pow_right (by decide) hp)
      have e0 : u / 2 ^ p % 2 = 0 := by omega
      obtain ⟨w1, w2⟩ := wt_ok (pN W) (by omega) (by omega) (sBits u) (by omega)
      have e5 : (nI (pN W) - 1) * 4 + nI (sBits u) = nI ((pN W - 1) * 4 + sBits u) := by
        obtain ⟨m, hm⟩ : ∃ m, pN W = m + 1 := ⟨pN W - 1, by omega⟩
        rw [hm, nI_pred, show (4 : Int32) = nI 4 from rfl, nI_mul, nI_add]
        rfl
      rw [if_neg c1, if_neg c1, e0, if_pos (show nI 0 = 0 from rfl), f_bd_of (bc_16 u (by omega)), e5, f_ck_of (vp_in_nI w1 (by decide)), f_ck_of h.1.b, shl_p p (by omega), nI_or, f_bd_of (k_made h ha hA hq hf ho), f_ck_of h.1.b, f_bd_of (k_made h ha hA hq hf (show u < 2 ^ pN W by omega)), nI_clamp (by omega), h.1.or, w2]
      unfold mdL
      rw [ring_step, ← l_sub (sMk_bd W r _ q) (sMk_bd W r u q) (by decide), ← l_sub (sMk_bd W (r + 3) _ q) (sMk_bd W (r + 3) u q) (by decide)]
      exact ih (u + 1) n _ _ (by omega) (by omega)
/-- the ones that are taken off -/
def sOnS (W : Vw) (r q : Nat) : Nat → Nat → Int64 → Int64
  | 0, _, a => a
  | k + 1, t, a => sOnS W r q k (t + 1) (if W 46 46 = 1 then a + (sMk W r (2 ^ t) q).toInt64 else if nI t = W 46 47 then a else a + (sMk W r (2 ^ t) q).toInt64)
theorem sOnes_sh (W : Vw) (r q : Nat) (c : Int64) : ∀ (k t : Nat) (a : Int64), sOnes W r q k t (a + c) = sOnes W r q k t a + c := by
  intro k
  induction k with
  | zero => intro t a; rfl
  | succ k ih =>
    intro t a
    show sOnes W r q k (t + 1) (a + c + (sMk W r (2 ^ t) q).toInt64) = sOnes W r q k (t + 1) (a + (sMk W r (2 ^ t) q).toInt64) + c
    rw [← ih, Int64.add_assoc, Int64.add_comm c, ← Int64.add_assoc]
theorem sOnS_1 (W : Vw) (r q : Nat) (h : W 46 46 = 1) : ∀ (k t : Nat) (a : Int64), sOnS W r q k t a = sOnes W r q k t a := by
  intro k
  induction k with
  | zero => intro t a; rfl
  | succ k ih =>
    intro t a
    show sOnS W r q k (t + 1) (if W 46 46 = 1 then _ else _) = sOnes W r q k (t + 1) _
    rw [if_pos h, ih]
theorem sOnS_2 (W : Vw) (r q : Nat) (h : ¬ W 46 46 = 1) {p : Nat} (hp : p < 4) (e : W 46 47 = nI p) : ∀ (k t : Nat) (a : Int64), t + k ≤ 4 → (p < t → sOnS W r q k t a = sOnes W r q k t a) ∧ (t ≤ p → p < t + k → sOnS W r q k t a + (sMk W r (2 ^ p) q).toInt64 = sOnes W r q k t a) := by
  intro k
  induction k with
  | zero => intro t a ht; exact ⟨fun _ => rfl, fun h1 h2 => by omega⟩
  | succ k ih =>
    intro t a ht
    have hne : ¬ t = p → ¬ nI t = W 46 47 := fun h9 => by rw [e]; exact nI_neq (by omega) (by omega) h9
    constructor
    · intro hpt
      show sOnS W r q k (t + 1) (if W 46 46 = 1 then _ else if nI t = W 46 47 then _ else _) = sOnes W r q k (t + 1) _
      rw [if_neg h, if_neg (hne (by omega))]
      exact (ih (t + 1) _ (by omega)).1 (by omega)
    · intro h1 h2
      show sOnS W r q k (t + 1) (if W 46 46 = 1 then _ else if nI t = W 46 47 then _ else _) + _ = sOnes W r q k (t + 1) _
      rw [if_neg h]
      by_cases c : t = p
      · subst c
        rw [if_pos e.symm, (ih (t + 1) _ (by omega)).1 (by omega), sOnes_sh]
      · rw [if_neg (hne c)]
        exact (ih (t + 1) _ (by omega)).2 (by omega) (by omega)
theorem k_share_ones (h : KT W s) {a r : Nat} (ha : a = 21 ∨ a = 26) (hA : KA W s a r) {q : Nat} (hq : q < 4 ^ pN W) (hf : mI s 18 q = mI s 6 5) (x2 : Int32) (x6 l m : Int64) : ∀ (k t n : Nat) (A B : Int64), t + k = pN W → k < n → f_Tu_shareOf_h135 n a x2 (nI q) (nI (pN W)) x6 ((10 - W 46 45).toInt64 * (l - A) + (W 46 45).toInt64 * (m - B)) (nI t) s =
    f_Tu_shareOf_b191 x2 (nI (pN W)) x6 ((10 - W 46 45).toInt64 * (l - sOnS W r q k t A) + (W 46 45).toInt64 * (m - sOnS W (r + 3) q k t B)) s := by
  have hp4 := h.1.p4
  have h16 := p2_le hp4
  intro k
  induction k with
  | zero =>
    intro t n A B ht hn
    obtain ⟨n, rfl⟩ : ∃ m, n = m + 1 := ⟨n - 1, by omega⟩
    show f_Tu_shareOf_b135 _ _ _ _ _ _ _ _ _ = _
    unfold f_Tu_shareOf_b135
    rw [f_ck_of h.1.b, h.1.pe, if_pos (nI_le (by omega) (by omega))]
    rfl
  | succ k ih =>
    intro t n A B ht hn
    obtain ⟨n, rfl⟩ : ∃ m, n = m + 1 := ⟨n - 1, by omega⟩
    have hp : 2 ^ t < 2 ^ pN W := Nat.pow_lt_pow_right (by decide) (by omega)
    show f_Tu_shareOf_b135 _ _ _ _ _ _ _ _ _ = _
    unfold f_Tu_shareOf_b135 f_Tu_shareOf_b170 f_Tu_shareOf_b185
    rw [f_ck_of h.1.b, h.1.pe, if_neg (nI_ge (by omega) (by omega)), h.1.ki, h.1.as, shl_p t (by omega), f_ck_of h.1.b, f_bd_of (k_made h ha hA hq hf hp), nI_1]
    have e9 : ((10 - W 46 45).toInt64 * (l - A) + (W 46 45).toInt64 * (m - B)) - mdL W r (2 ^ t) q = (10 - W 46 45).toInt64 * (l - (A + (sMk W r (2 ^ t) q).toInt64)) + (W 46 45).toInt64 * (m - (B + (sMk W (r + 3) (2 ^ t) q).toInt64)) := by
      unfold mdL
      rw [ring_sub]
      have r1 : ∀ l A c : Int64, l - A - c = l - (A + c) := fun l A c => by grind
      rw [r1, r1]
    rw [e9, ih (t + 1) n _ _ (by omega) (by omega), ih (t + 1) n _ _ (by omega) (by omega)]
    show _ = f_Tu_shareOf_b191 x2 (nI (pN W)) x6 ((10 - W 46 45).toInt64 * (l - sOnS W r q k (t + 1) (if W 46 46 = 1 then A + (sMk W r (2 ^ t) q).toInt64 else if nI t = W 46 47 then A else A + (sMk W r (2 ^ t) q).toInt64)) + (W 46 45).toInt64 * (m - sOnS W (r + 3) q k (t + 1) (if W 46 46 = 1 then B + (sMk W (r + 3) (2 ^ t) q).toInt64 else if nI t = W 46 47 then B else B + (sMk W (r + 3) (2 ^ t) q).toInt64))) s
    by_cases c1 : W 46 46 = 1
    · rw [if_pos c1, if_pos c1, if_pos c1]
    · rw [if_neg c1, if_neg c1, if_neg c1]
      by_cases c2 : nI t = W 46 47
      · rw [if_pos c2, if_pos c2, if_pos c2]
      · rw [if_neg c2, if_neg c2, if_neg c2]
theorem ring_asker (x y A0 B0 l m X Y : Int64) : 24 * (x * (l - X) + y * (m - Y)) = x * (24 * (A0 + (l - (X + A0)))) + y * (24 * (B0 + (m - (Y + B0)))) := by grind
theorem k_shareOf (h : KT W s) {a r : Nat} (ha : a = 21 ∨ a = 26) (hA : KA W s a r) {p q : Nat} (hp : p < pN W) (hq : q < 4 ^ pN W) (hf : mI s 18 q = mI s 6 5) : f_Tu_shareOf a (nI p) (nI q) s = some (sShI W r p q, s) := by
  have hp4 := h.1.p4
  have h16 := p2_le hp4
  have h1p : 1 ≤ 2 ^ pN W := Nat.one_le_two_pow
  have eh : (if (1 : Int32) < nI (pN W) then nI (pN W) else (1 : Int32)) = nI (pN W) := by
    by_cases c : (1 : Int32) < nI (pN W)
    · rw [if_pos c]
    · have : pN W = 1 := by
        have := mt (nI_ltI (a := 1) (b := pN W) (by decide) (by omega)).mpr c
        omega
      rw [if_neg c, this]; rfl
  unfold f_Tu_shareOf sShI sShB
  simp only [f_ck_of h.1.b, f_bd_of (k_all h.1), h.1.pe, eh, h.1.ki]
  by_cases c0 : W 46 46 = 0
  · rw [if_pos c0, if_pos c0, if_pos c0]
    have e := k_share_all h ha hA hp hq hf (2 ^ pN W) 0 zl_fl 0 0 (by omega) (zl_fl_lt (by omega))
    rw [show (10 - W 46 45).toInt64 * (0 * (24 / nI (sOrd (pN W))).toInt64) + (W 46 45).toInt64 * (0 * (24 / nI (sOrd (pN W))).toInt64) = 0 by grind] at e
    exact e
  · rw [if_neg c0, if_neg c0, if_neg c0]
    have hpp : 2 ^ p < 2 ^ pN W := Nat.pow_lt_pow_right (by decide) hp
    rw [shl_p p (by omega), f_bd_of (k_made h ha hA hq hf hpp), f_bd_of (k_made h ha hA hq hf (show 2 ^ pN W - 1 < 2 ^ pN W by omega))]
    have e := k_share_ones h ha hA hq hf (nI p) (mdL W r (2 ^ p) q) (sMk W r (2 ^ pN W - 1) q).toInt64 (sMk W (r + 3) (2 ^ pN W - 1) q).toInt64 (pN W) 0 zl_fl 0 0 (by omega) (zl_fl_lt (by omega))
    rw [show (10 - W 46 45).toInt64 * ((sMk W r (2 ^ pN W - 1) q).toInt64 - 0) + (W 46 45).toInt64 * ((sMk W (r + 3) (2 ^ pN W - 1) q).toInt64 - 0) = mdL W r (2 ^ pN W - 1) q by unfold mdL; grind] at e
    refine (f_ck_of h.1.b).trans (Eq.trans e ?_)
    unfold f_Tu_shareOf_b191 f_Tu_shareOf_b240
    rw [f_ck_of h.1.b, h.1.ki, h.1.as]
    unfold sRest
    by_cases c1 : W 46 46 = 1
    · rw [if_pos c1, if_pos c1, if_pos c1, f_ck_of (nI_ne0 (by omega) (by omega)), sOnS_1 W r q c1, sOnS_1 W (r + 3) q c1]
      unfold mdL
      rw [ring_even]
    · rw [if_neg c1, if_neg c1, if_neg c1]
      by_cases c2 : nI p = W 46 47
      · rw [if_pos c2, if_pos c2, if_pos c2]
        have k1 := (sOnS_2 W r q c1 (p := p) (by omega) c2.symm (pN W) 0 0 (by omega)).2 (by omega) (by omega)
        have k2 := (sOnS_2 W (r + 3) q c1 (p := p) (by omega) c2.symm (pN W) 0 0 (by omega)).2 (by omega) (by omega)
        rw [ring_asker _ _ (sMk W r (2 ^ p) q).toInt64 (sMk W (r + 3) (2 ^ p) q).toInt64, k1, k2]
      · rw [if_neg c2, if_neg c2, if_neg c2]
        unfold mdL
        rw [ring_one]
end
