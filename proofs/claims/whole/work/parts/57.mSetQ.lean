/-! what is told: the model -/
section
def bOwn (V : Vw) (x1 x2 x3 : Int32) : Bool := xb x1 (tN V) && (xb x2 (2 ^ pN V) && (if x2 = 0 then decide (x3 = 1) else wi x3 1 (nI (sBits x2.toNatClampNeg))))
def vOwn (V : Vw) (x1 x2 x3 : Int32) : Vw := if bOwn V x1 x2 x3 = true then vU (vU V 69 x1.toNatClampNeg x2) 70 x1.toNatClampNeg x3 else V
def vLater (V : Vw) (x1 x2 x3 : Int32) : Vw := if bOwn V x1 x2 x3 = true then vU (vU (vU V 71 x1.toNatClampNeg x2) 72 x1.toNatClampNeg x3) 73 x1.toNatClampNeg 1 else V
def vChance (V : Vw) (x : Int32) : Vw := if wi x 0 10 = true then vU V 46 45 x else V
def bBarg (V : Vw) (x1 x2 : Int32) : Bool := wi x1 0 2 && xb x2 (pN V)
def vBarg (V : Vw) (x1 x2 : Int32) : Vw := if bBarg V x1 x2 = true then vU (vU V 46 46 x1) 46 47 x2 else V
/-- what a telling to the model comes to -/
def QS (V' : Vw) (s : Sg) (f : Option (Int32 × Sg)) (a : Int32) : Prop := ∃ s', f = some (a, s') ∧ RM V' s' ∧ FO s s' ∧ mI s' 46 0 = 0
variable {V : Vw} {s : Sg}
theorem WV_vU (hW : WV V) {a k : Nat} (x : Int32) (h1 : ¬ (a = 46 ∧ (k = 10 ∨ k = 11 ∨ k = 12))) (h2 : a ≠ 49 ∧ a ≠ 50 ∧ a ≠ 51 ∧ a ≠ 52)
    (h3 : (a = 69 ∨ a = 71) → k < 3 → is_n x (2 ^ pN V - 1)) (h4 : (a = 70 ∨ a = 72) → k < 3 → is_n x 4) (h5 : a = 73 → k < 3 → (x = 0 ∨ x = 1)) (h6 : a = 46 → (k = 45 → is_n x 10) ∧ (k = 46 → is_n x 2) ∧ (k = 47 → is_n x 3)) : WV (vU V a k x) := by
  have e : ∀ b j, ¬ (b = a ∧ j = k) → vU V a k x b j = V b j := fun b j hb => vU_ne V x hb
  have ep : pN (vU V a k x) = pN V := by unfold pN; rw [e 46 10 (by omega)]
  have et : tN (vU V a k x) = tN V := by unfold tN; rw [e 46 11 (by omega)]
  have ek : kN (vU V a k x) = kN V := by unfold kN; rw [e 46 12 (by omega)]
  have es : ∀ p, sN (vU V a k x) p = sN V p := fun p => by unfold sN; rw [e 49 p (by omega)]
  have h16 : 2 ^ pN V - 1 ≤ 15 := by have := p2_le hW.1.2; omega
  obtain ⟨w1, w2, w3, w4, w5, w6, w7, w8, w9, w10⟩ := hW
  unfold WV
  rw [ep, et, ek, e 46 10 (by omega), e 46 11 (by omega), e 46 12 (by omega)]
  simp only [es, fun p => e 49 p (by omega), fun p => e 50 p (by omega), fun p => e 51 p (by omega), fun p => e 52 p (by omega)]
  refine ⟨w1, w2, w3, w4, w5, w6, fun t ht => ?_, ?_, ?_, ?_⟩
  · obtain ⟨k1, k2, k3, k4, k5⟩ := w7 t ht
    refine ⟨?_, ?_, ?_, ?_, ?_⟩
    · by_cases c : 69 = a ∧ t = k
      · rw [← c.1, ← c.2, vU_at]; exact h3 (Or.inl c.1.symm) (by omega)
      · rw [e _ _ c]; exact k1
    · by_cases c : 70 = a ∧ t = k
      · rw [← c.1, ← c.2, vU_at]; exact h4 (Or.inl c.1.symm) (by omega)
      · rw [e _ _ c]; exact k2
    · by_cases c : 71 = a ∧ t = k
      · rw [← c.1, ← c.2, vU_at]; exact is_n_mono (h3 (Or.inr c.1.symm) (by omega)) h16
      · rw [e _ _ c]; exact k3
    · by_cases c : 72 = a ∧ t = k
      · rw [← c.1, ← c.2, vU_at]; exact h4 (Or.inr c.1.symm) (by omega)
      · rw [e _ _ c]; exact k4
    · by_cases c : 73 = a ∧ t = k
      · rw [← c.1, ← c.2, vU_at]; exact h5 c.1.symm (by omega)
      · rw [e _ _ c]; exact k5
  · by_cases c : 46 = a ∧ 45 = k
    · rw [← c.1, ← c.2, vU_at]; exact (h6 c.1.symm).1 c.2.symm
    · rw [e _ _ c]; exact w8
  · by_cases c : 46 = a ∧ 46 = k
    · rw [← c.1, ← c.2, vU_at]; exact (h6 c.1.symm).2.1 c.2.symm
    · rw [e _ _ c]; exact w9
  · by_cases c : 46 = a ∧ 47 = k
    · rw [← c.1, ← c.2, vU_at]; exact (h6 c.1.symm).2.2 c.2.symm
    · rw [e _ _ c]; exact w10
theorem m_isOwning (h : RM V s) (x1 x2 x3 : Int32) : f_Mo_isOwning x1 x2 x3 s = some (if bOwn V x1 x2 x3 = true then 1 else 0, s) := by
  have h16 := p2_le h.p4
  unfold f_Mo_isOwning f_Mo_isOwning_b40 bOwn
  simp only [f_ck_of h.b, f_bd_of (m_isThing h x1), f_bd_of (m_areThem h x2), ite10]
  by_cases c1 : xb x1 (tN V) = true
  · rw [if_pos c1, c1]
    by_cases c2 : xb x2 (2 ^ pN V) = true
    · obtain ⟨u, hu, rfl⟩ := xb_t c2 (by omega)
      rw [if_pos c2, c2, nI_clamp (by omega)]
      simp only [f_bd_of (m_bits (s := s) (n := u) (by omega)), f_bd_of (m_wi x3 1 (nI (sBits u))), ite10, Bool.true_and]
      by_cases c3 : nI u = 0
      · rw [if_pos c3, if_pos c3]
        by_cases c4 : x3 = 1
        · rw [if_pos c4, if_pos (by simpa using c4)]
        · rw [if_neg c4, if_neg (by simpa using c4)]
      · rw [if_neg c3, if_neg c3]
        by_cases c4 : wi x3 1 (nI (sBits u)) = true
        · rw [if_pos c4, if_pos c4]
        · rw [if_neg c4, if_neg c4]
    · rw [if_neg c2, if_neg (by simp [c2])]
  · rw [if_neg c1, if_neg (by simp [c1])]
theorem bOwn_t (hW : WV V) {x1 x2 x3 : Int32} (h : bOwn V x1 x2 x3 = true) : ∃ t, t < tN V ∧ x1 = nI t ∧ is_n x2 (2 ^ pN V - 1) ∧ is_n x3 4 ∧ x3 ≠ 0 := by
  have h16 := p2_le hW.1.2
  have ht3 := hW.2.1.2
  unfold bOwn at h
  simp only [Bool.and_eq_true] at h
  obtain ⟨c1, c2, c3⟩ := h
  obtain ⟨t, ht, rfl⟩ := xb_t c1 (by omega)
  obtain ⟨u, hu, rfl⟩ := xb_t c2 (by omega)
  refine ⟨t, ht, rfl, ⟨u, by omega, rfl⟩, ?_⟩
  rw [nI_clamp (by omega)] at c3
  by_cases c : nI u = 0
  · rw [if_pos c] at c3
    have e : x3 = 1 := by simpa using c3
    rw [e]
    exact ⟨⟨1, by decide, rfl⟩, by decide⟩
  · rw [if_neg c] at c3
    have h4 : sBits u ≤ 4 := by unfold sBits; omega
    simp only [wi, Bool.and_eq_true, Bool.not_eq_true', decide_eq_false_iff_not] at c3
    have hneg : ¬ x3 < 0 := fun h9 => c3.1 (Int32.lt_of_lt_of_le h9 (by decide))
    obtain ⟨k, hk, rfl⟩ := nI_of hneg
    have hk1 : ¬ k < 1 := fun h9 => c3.1 ((nI_ltI (b := 1) hk (by decide)).mpr h9)
    exact ⟨⟨k, Nat.le_of_not_lt fun h9 => c3.2 ((nI_ltI (by omega) hk).mpr (by omega)), rfl⟩, nI_ne0 (by omega) hk⟩
theorem m_ownQ (h : RM V s) (x1 x2 x3 : Int32) : QS (vOwn V x1 x2 x3) s (f_Mo_own x1 x2 x3 s) (b2i (bOwn V x1 x2 x3)) := by
  obtain ⟨h0, f0, t0⟩ := h.no
  have ht3 := h.t3
  unfold f_Mo_own vOwn
  simp only [f_ck_of h.b, f_bd_of (m_isOwning h0 x1 x2 x3), ite10, f_ck_of h0.b]
  by_cases c : bOwn V x1 x2 x3 = true
  · obtain ⟨t, ht, rfl, n2, n3, -⟩ := bOwn_t h.w c
    have i3 : vp_in (nI t) 3 := vp_in_nI (by omega) (by decide)
    rw [if_pos c, if_pos c, c, f_ck_of i3, f_ck_of i3, nI_clamp (by omega)]
    have hw1 : WV (vU V 69 t x2) := WV_vU h.w x2 (by omega) (by decide) (fun _ _ => n2) (fun h9 => by omega) (fun h9 => by omega) (fun h9 => by omega)
    have h1 := h0.lw 69 t x2 hw1 (by omega)
    have ep : pN (vU V 69 t x2) = pN V := by unfold pN; rw [vU_ne _ _ (by omega)]
    have hw2 : WV (vU (vU V 69 t x2) 70 t x3) := WV_vU hw1 x3 (by omega) (by decide) (fun h9 => by omega) (fun _ _ => n3) (fun h9 => by omega) (fun h9 => by omega)
    have h2 := h1.lw 70 t x3 hw2 (by omega)
    refine ⟨_, rfl, h2, (f0.trans (FO.uI _ (a := 69) (k := t) x2 (by decide))).trans (FO.uI _ (a := 70) (k := t) x3 (by decide)), ?_⟩
    rw [mI_ne _ _ (by omega), mI_ne _ _ (by omega)]; exact t0
  · rw [if_neg c, if_neg c]
    have e : bOwn V x1 x2 x3 = false := by simpa using c
    rw [e]
    exact ⟨_, rfl, h0, f0, t0⟩
theorem m_laterQ (h : RM V s) (x1 x2 x3 : Int32) : QS (vLater V x1 x2 x3) s (f_Mo_later x1 x2 x3 s) (b2i (bOwn V x1 x2 x3)) := by
  obtain ⟨h0, f0, t0⟩ := h.no
  have ht3 := h.t3
  unfold f_Mo_later vLater
  simp only [f_ck_of h.b, f_bd_of (m_isOwning h0 x1 x2 x3), ite10, f_ck_of h0.b]
  by_cases c : bOwn V x1 x2 x3 = true
  · obtain ⟨t, ht, rfl, n2, n3, -⟩ := bOwn_t h.w c
    have i3 : vp_in (nI t) 3 := vp_in_nI (by omega) (by decide)
    rw [if_pos c, if_pos c, c, f_ck_of i3, f_ck_of i3, f_ck_of i3, nI_clamp (by omega), show vp_nar .boolean 1 = 1 by decide]
    have hw1 : WV (vU V 71 t x2) := WV_vU h.w x2 (by omega) (by decide) (fun _ _ => n2) (fun h9 => by omega) (fun h9 => by omega) (fun h9 => by omega)
    have h1 := h0.lw 71 t x2 hw1 (by omega)
    have hw2 : WV (vU (vU V 71 t x2) 72 t x3) := WV_vU hw1 x3 (by omega) (by decide) (fun h9 => by omega) (fun _ _ => n3) (fun h9 => by omega) (fun h9 => by omega)
    have h2 := h1.lw 72 t x3 hw2 (by omega)
    have hw3 : WV (vU (vU (vU V 71 t x2) 72 t x3) 73 t 1) := WV_vU hw2 1 (by omega) (by decide) (fun h9 => by omega) (fun h9 => by omega) (fun _ _ => Or.inr rfl) (fun h9 => by omega)
    have h3 := h2.lw 73 t 1 hw3 (by omega)
    refine ⟨_, rfl, h3, ((f0.trans (FO.uI _ (a := 71) (k := t) x2 (by decide))).trans (FO.uI _ (a := 72) (k := t) x3 (by decide))).trans (FO.uI _ (a := 73) (k := t) 1 (by decide)), ?_⟩
    rw [mI_ne _ _ (by omega), mI_ne _ _ (by omega), mI_ne _ _ (by omega)]; exact t0
  · rw [if_neg c, if_neg c]
    have e : bOwn V x1 x2 x3 = false := by simpa using c
    rw [e]
    exact ⟨_, rfl, h0, f0, t0⟩
theorem m_chanceQ (h : RM V s) (x : Int32) : QS (vChance V x) s (f_Mo_chance x s) (b2i (wi x 0 10)) := by
  obtain ⟨h0, f0, t0⟩ := h.no
  unfold f_Mo_chance vChance
  simp only [f_ck_of h.b, f_bd_of (m_wi x 0 10), ite10, f_ck_of h0.b]
  by_cases c : wi x 0 10 = true
  · obtain ⟨k, hk, rfl⟩ := wi_t (m := 10) c (by decide)
    rw [if_pos c, if_pos c, c]
    have hw1 : WV (vU V 46 45 (nI k)) := WV_vU h.w _ (by decide) (by decide) (fun h9 => by omega) (fun h9 => by omega) (fun h9 => by omega) (fun _ => ⟨fun _ => ⟨k, hk, rfl⟩, fun h9 => by omega, fun h9 => by omega⟩)
    have h1 := h0.lw 46 45 (nI k) hw1 (by decide)
    refine ⟨_, rfl, h1, f0.trans (FO.uI _ (a := 46) (k := 45) _ (by decide)), ?_⟩
    rw [mI_ne _ _ (by decide)]; exact t0
  · rw [if_neg c, if_neg c]
    have e : wi x 0 10 = false := by simpa using c
    rw [e]
    exact ⟨_, rfl, h0, f0, t0⟩
theorem m_bargQ (h : RM V s) (x1 x2 : Int32) : QS (vBarg V x1 x2) s (f_Mo_bargain x1 x2 s) (b2i (bBarg V x1 x2)) := by
  obtain ⟨h0, f0, t0⟩ := h.no
  have hp4 := h.p4
  unfold f_Mo_bargain vBarg bBarg
  simp only [f_ck_of h.b, f_bd_of (m_wi x1 0 2), f_bd_of (m_isPerson h0 x2), ite10, f_ck_of h0.b]
  by_cases c1 : wi x1 0 2 = true
  · rw [if_pos c1]
    by_cases c2 : xb x2 (pN V) = true
    · obtain ⟨k, hk, rfl⟩ := wi_t (m := 2) c1 (by decide)
      obtain ⟨p, hp, rfl⟩ := xb_t c2 (by omega)
      rw [if_pos c2, c1, c2, if_pos (by rfl)]
      have hw1 : WV (vU V 46 46 (nI k)) := WV_vU h.w _ (by decide) (by decide) (fun h9 => by omega) (fun h9 => by omega) (fun h9 => by omega) (fun _ => ⟨fun h9 => by omega, fun _ => ⟨k, hk, rfl⟩, fun h9 => by omega⟩)
      have h1 := h0.lw 46 46 (nI k) hw1 (by decide)
      have hw2 : WV (vU (vU V 46 46 (nI k)) 46 47 (nI p)) := WV_vU hw1 _ (by decide) (by decide) (fun h9 => by omega) (fun h9 => by omega) (fun h9 => by omega) (fun _ => ⟨fun h9 => by omega, fun h9 => by omega, fun _ => ⟨p, by omega, rfl⟩⟩)
      have h2 := h1.lw 46 47 (nI p) hw2 (by decide)
      refine ⟨_, rfl, h2, (f0.trans (FO.uI _ (a := 46) (k := 46) _ (by decide))).trans (FO.uI _ (a := 46) (k := 47) _ (by decide)), ?_⟩
      rw [mI_ne _ _ (by decide), mI_ne _ _ (by decide)]; exact t0
    · rw [if_neg c2]
      have e : (wi x1 0 2 && xb x2 (pN V)) = false := by simp [c2]
      rw [e, if_neg (by decide)]
      exact ⟨_, rfl, h0, f0, t0⟩
  · rw [if_neg c1]
    have e : (wi x1 0 2 && xb x2 (pN V)) = false := by simp [c1]
    rw [e, if_neg (by decide)]
    exact ⟨_, rfl, h0, f0, t0⟩
/-! things that are worth nothing apart -/
def adQ (V : Vw) (a u w : Nat) (q : Nat) : Bool := !vpa V q || decide (sWo V (nI u) (nI (w ||| 2 ^ a)) q ≤ sWo V (nI u) (nI w) q)
def adW (V : Vw) (a b u : Nat) (w : Nat) : Bool := decide (w / 2 ^ a % 2 = 1) || (decide (w / 2 ^ b % 2 = 1) || sAll (adQ V a u w) (4 ^ pN V) 0)
def adU (V : Vw) (a b : Nat) (u : Nat) : Bool := sAll (adW V a b u) (2 ^ tN V) 0
def adN (V : Vw) (a b : Nat) : Bool := sAll (adU V a b) (2 ^ pN V) 0
def bApart (V : Vw) (x1 x2 : Int32) : Bool := xb x1 (tN V) && (xb x2 (tN V) && !decide (x1 = x2))
def aApart (V : Vw) (x1 x2 : Int32) : Int32 := nB (bApart V x1 x2) (b2i (adN (askW V) x1.toNatClampNeg x2.toNatClampNeg && adN (askW V) x2.toNatClampNeg x1.toNatClampNeg))
theorem cg_adN {W X : Vw} (h : eqT W X) (a b : Nat) : adN X a b = adN W a b := by
  have e1 : ∀ u w, adQ X a u w = adQ W a u w := fun u w => by
    funext q
    unfold adQ
    rw [cg_vpa h, cg_sWo h, cg_sWo h]
  have e2 : ∀ u, adW X a b u = adW W a b u := fun u => by
    funext w
    unfold adW
    rw [e1, cg_pN h]
  have e3 : adU X a b = adU W a b := by
    funext u
    unfold adU
    rw [e2, cg_tN h]
  unfold adN
  rw [e3, cg_pN h]
theorem m_adds_52 (h : RM V s) {a b : Nat} (ha : a < 3) (R2 : Int32 → Int32 → Int32 → Sg → Option (Int32 × Sg)) (R15 : Int32 → Int32 → Int32 → Int32 → Sg → Option (Int32 × Sg)) {u w : Nat} : ∀ (k q n : Nat), q + k = 4 ^ pN V → k < n → f_Mo_adds_h52 R2 R15 n (nI a) (nI b) (nI u) (nI w) (nI q) s = (if sAll (adQ V a u w) k q = true then R15 (nI a) (nI b) (nI u) (nI (w + 1)) s else some (1, s)) := by
  have hp4 := h.p4
  have h256 := p4_le hp4
  intro k
  induction k with
  | zero =>
    intro q n hq hn
    obtain ⟨n, rfl⟩ : ∃ m, n = m + 1 := ⟨n - 1, by omega⟩
    show f_Mo_adds_b52 _ _ _ _ _ _ _ _ _ = _
    unfold f_Mo_adds_b52 f_Mo_adds_b107
    rw [f_ck_of h.b, h.pe, shl_2p _ hp4, if_pos (nI_le (by omega) (by omega)), nI_1]
    rfl
  | succ k ih =>
    intro q n hq hn
    obtain ⟨n, rfl⟩ : ∃ m, n = m + 1 := ⟨n - 1, by omega⟩
    show f_Mo_adds_b52 _ _ _ _ _ _ _ _ _ = (if (adQ V a u w q && sAll (adQ V a u w) k (q + 1)) = true then _ else _)
    unfold f_Mo_adds_b52 f_Mo_adds_b101
    simp only [f_ck_of h.b, h.pe, shl_2p _ hp4, f_bd_of (m_isPainsN h (show q < 2 ^ 31 by omega)), ite10, shl_p a (by omega), nI_or, f_bd_of (m_worthOf h (show q < 256 by omega) (nI u) (nI (w ||| 2 ^ a))), f_bd_of (m_worthOf h (show q < 256 by omega) (nI u) (nI w)), nI_1]
    rw [if_neg (nI_ge (by omega) (by omega)), ih (q + 1) n (by omega) (by omega)]
    unfold adQ
    by_cases c : vpa V q = true
    · rw [if_pos c]
      by_cases c2 : sWo V (nI u) (nI (w ||| 2 ^ a)) q ≤ sWo V (nI u) (nI w) q
      · rw [if_pos c2]; simp [c2]
      · rw [if_neg c2]; simp [c, c2]
    · rw [if_neg c]; simp [c]
theorem m_adds_15 (h : RM V s) {a b : Nat} (ha : a < 3) (hb : b < 3) (R2 : Int32 → Int32 → Int32 → Sg → Option (Int32 × Sg)) {u : Nat} : ∀ (k w n : Nat), w + k = 2 ^ tN V → k < n → f_Mo_adds_h15 R2 n (nI a) (nI b) (nI u) (nI w) s = (if sAll (adW V a b u) k w = true then R2 (nI a) (nI b) (nI (u + 1)) s else some (1, s)) := by
  have ht3 := h.t3
  have h16 := p2_le (show tN V ≤ 4 by omega)
  have hp4 := h.p4
  have h256 := p4_le hp4
  intro k
  induction k with
  | zero =>
    intro w n hq hn
    obtain ⟨n, rfl⟩ : ∃ m, n = m + 1 := ⟨n - 1, by omega⟩
    show f_Mo_adds_b15 _ _ _ _ _ _ _ = _
    unfold f_Mo_adds_b15 f_Mo_adds_b113
    rw [f_ck_of h.b, h.th, shl_p _ (by omega), if_pos (nI_le (by omega) (by omega)), nI_1]
    rfl
  | succ k ih =>
    intro w n hq hn
    obtain ⟨n, rfl⟩ : ∃ m, n = m + 1 := ⟨n - 1, by omega⟩
    show f_Mo_adds_b15 _ _ _ _ _ _ _ = (if (adW V a b u w && sAll (adW V a b u) k (w + 1)) = true then _ else _)
    have hi := ih (w + 1) n (by omega) (by omega)
    have e52 := m_adds_52 h ha (b := b) R2 (f_Mo_adds_h15 R2 n) (u := u) (w := w) (4 ^ pN V) 0 zl_fl (by omega) (zl_fl_lt (by omega))
    have e52' : f_Mo_adds_h52 R2 (f_Mo_adds_h15 R2 n) zl_fl (nI a) (nI b) (nI u) (nI w) 0 s = _ := e52
    unfold f_Mo_adds_b15 f_Mo_adds_b107
    rw [f_ck_of h.b, h.th, shl_p _ (by omega), if_neg (nI_ge (by omega) (by omega)), bit_at (by omega) (by omega), bit_at (by omega) (by omega), nI_1, e52', hi]
    unfold adW
    by_cases c1 : w / 2 ^ a % 2 = 1
    · rw [if_pos (by rw [c1]; rfl)]; simp [c1]
    · rw [if_neg (show ¬ nI (w / 2 ^ a % 2) = 1 from nI_neq (by omega) (by decide) c1)]
      by_cases c2 : w / 2 ^ b % 2 = 1
      · rw [if_pos (by rw [c2]; rfl)]; simp [c2]
      · rw [if_neg (show ¬ nI (w / 2 ^ b % 2) = 1 from nI_neq (by omega) (by decide) c2)]
        by_cases c3 : sAll (adQ V a u w) (4 ^ pN V) 0 = true
        · rw [if_pos c3]; simp [c1, c2, c3]
        · rw [if_neg c3]; simp [c1, c2, c3]
theorem m_adds_2 (h : RM V s) {a b : Nat} (ha : a < 3) (hb : b < 3) : ∀ (k u n : Nat), u + k = 2 ^ pN V → k < n → f_Mo_adds_h2 n (nI a) (nI b) (nI u) s = some (if sAll (adU V a b) k u = true then 0 else 1, s) := by
  have hp4 := h.p4
  have ht3 := h.t3
  have h16 := p2_le hp4
  have h16t := p2_le (show tN V ≤ 4 by omega)
  intro k
  induction k with
  | zero =>
    intro u n hq hn
    obtain ⟨n, rfl⟩ : ∃ m, n = m + 1 := ⟨n - 1, by omega⟩
    show f_Mo_adds_b2 _ _ _ _ _ = _
    unfold f_Mo_adds_b2
    rw [f_ck_of h.b, h.pe, shl_p _ (by omega), if_pos (nI_le (by omega) (by omega))]
    rfl
  | succ k ih =>
    intro u n hq hn
    obtain ⟨n, rfl⟩ : ∃ m, n = m + 1 := ⟨n - 1, by omega⟩
    have e15 := m_adds_15 h ha hb (f_Mo_adds_h2 n) (u := u) (2 ^ tN V) 0 zl_fl (by omega) (zl_fl_lt (by omega))
    have e15' : f_Mo_adds_h15 (f_Mo_adds_h2 n) zl_fl (nI a) (nI b) (nI u) 0 s = _ := e15
    show f_Mo_adds_b2 _ _ _ _ _ = some (if (adU V a b u && sAll (adU V a b) k (u + 1)) = true then 0 else 1, s)
    unfold f_Mo_adds_b2
    rw [f_ck_of h.b, h.pe, shl_p _ (by omega), if_neg (nI_ge (by omega) (by omega)), e15', ih (u + 1) n (by omega) (by omega)]
    unfold adU
    by_cases c : sAll (adW V a b u) (2 ^ tN V) 0 = true
    · rw [if_pos c]; simp [c]
    · rw [if_neg c]; simp [c]
theorem m_adds (h : RM V s) {a b : Nat} (ha : a < 3) (hb : b < 3) : f_Mo_adds (nI a) (nI b) s = some (if adN V a b = true then 0 else 1, s) := by
  have h16 := p2_le h.p4
  unfold f_Mo_adds
  exact m_adds_2 h ha hb (2 ^ pN V) 0 zl_fl (by omega) (zl_fl_lt (by omega))
theorem m_apartQ (h : RM V s) (x1 x2 : Int32) : QM V s (f_Mo_apart x1 x2 s) (aApart V x1 x2) 0 := by
  obtain ⟨V1, h1, f1, w1, t1, z1, q1⟩ := h.ten 0
  have ht3 := h.t3
  have hno : bApart V x1 x2 = false → QM V s (some ((-1 : Int32), uI (uI s 46 0 0) 46 39 10)) (aApart V x1 x2) 0 := by
    intro e
    unfold aApart nB
    rw [e, if_neg (by decide)]
    exact QM.mk rfl h1 f1 w1 t1
  unfold f_Mo_apart f_Mo_apart_b52
  simp only [f_ck_of h.b, f_bd_of (m_isThing h1 x1), f_bd_of (m_isThing h1 x2), f_ck_of h1.b, ite10, (eqW_xb w1 x1).2.1, (eqW_xb w1 x2).2.1]
  by_cases c1 : xb x1 (tN V) = true
  · rw [if_pos c1]
    by_cases c2 : xb x2 (tN V) = true
    · rw [if_pos c2]
      by_cases c3 : x1 = x2
      · rw [if_pos c3]; exact hno (by unfold bApart; simp [c3])
      · have hc : bApart V x1 x2 = true := by unfold bApart; rw [c1, c2]; simp [c3]
        obtain ⟨a, ha, rfl⟩ := xb_t c1 (by omega)
        obtain ⟨b, hb, rfl⟩ := xb_t c2 (by omega)
        rw [if_neg c3]
        unfold aApart nB
        rw [hc, if_pos rfl, nI_clamp (by omega), nI_clamp (by omega), ← cg_adN q1, ← cg_adN q1]
        simp only [f_bd_of (m_adds h1 (a := a) (b := b) (by omega) (by omega)), f_bd_of (m_adds h1 (a := b) (b := a) (by omega) (by omega)), f_ck_of h1.b]
        by_cases d1 : adN V1 a b = true
        · by_cases d2 : adN V1 b a = true
          · rw [d1, d2]; exact QM.mk rfl h1 f1 w1 t1
          · have d2' : adN V1 b a = false := by simpa using d2
            rw [d1, d2']; exact QM.mk rfl h1 f1 w1 t1
        · have d1' : adN V1 a b = false := by simpa using d1
          rw [d1']; exact QM.mk rfl h1 f1 w1 t1
    · rw [if_neg c2]; exact hno (by unfold bApart; simp [c2])
  · rw [if_neg c1]; exact hno (by unfold bApart; simp [c1])
end
