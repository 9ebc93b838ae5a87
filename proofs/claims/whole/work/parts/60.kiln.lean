/-! the class's side: what it knows of a world -/
section
/-- what the working out of rows, and turns, may write -/
def KF (s s' : Sg) : Prop := (mN s' = mN s ∧ ∀ j, mI s 18 j = mI s 6 5 → mI s' 18 j = mI s' 6 5) ∧ s'.2.2.1 = s.2.2.1 ∧ ∀ a k, ¬ (17 ≤ a ∧ a ≤ 20) → ¬ (a = 5 ∧ k = 8) → mI s' a k = mI s a k ∧ mL s' a k = mL s a k
theorem KF.rf (s : Sg) : KF s s := ⟨⟨rfl, fun _ h => h⟩, rfl, fun _ _ _ _ => ⟨rfl, rfl⟩⟩
theorem KF.trans {s0 s1 s2 : Sg} (h : KF s0 s1) (k : KF s1 s2) : KF s0 s2 := ⟨⟨k.1.1.trans h.1.1, fun j hj => k.1.2 j (h.1.2 j hj)⟩, k.2.1.trans h.2.1, fun a j ha hb => ⟨((k.2.2 a j ha hb).1).trans (h.2.2 a j ha hb).1, ((k.2.2 a j ha hb).2).trans (h.2.2 a j ha hb).2⟩⟩
theorem kf_uI (s : Sg) {a k : Nat} (x : Int32) (ha : a = 17 ∨ a = 20 ∨ (a = 5 ∧ k = 8)) : KF s (uI s a k x) := by
  have e : ∀ b j, ¬ (b = a ∧ j = k) → mI (uI s a k x) b j = mI s b j := fun b j hb => zl_up_ne _ _ hb
  refine ⟨⟨rfl, fun j hj => ?_⟩, rfl, fun b j hb hc => ⟨e b j (fun h9 => by omega), rfl⟩⟩
  rw [e 18 j (fun h9 => by omega), e 6 5 (fun h9 => by omega)]
  exact hj
theorem kf_u18 (s : Sg) (q : Nat) : KF s (uI s 18 q (mI s 6 5)) := by
  have e : ∀ b j, ¬ (b = 18 ∧ j = q) → mI (uI s 18 q (mI s 6 5)) b j = mI s b j := fun b j hb => zl_up_ne _ _ hb
  refine ⟨⟨rfl, fun j hj => ?_⟩, rfl, fun b j hb hc => ⟨e b j (fun h9 => by omega), rfl⟩⟩
  rw [e 6 5 (fun h9 => by omega)]
  by_cases c : j = q
  · rw [c]; exact zl_up_at _ _ _ _
  · rw [e 18 j (fun h9 => c h9.2)]; exact hj
theorem kf_uL (s : Sg) {a k : Nat} (x : Int64) (ha : 17 ≤ a ∧ a ≤ 20) : KF s (uL s a k x) := ⟨⟨rfl, fun _ h => h⟩, rfl, fun b j hb hc => ⟨rfl, zl_up_ne _ _ (fun e => by omega)⟩⟩
theorem KF.b {s s' : Sg} (h : KF s s') (hb : zl_B s) : zl_B s' := ⟨by rw [h.1.1]; exact hb.1, by rw [h.2.1]; exact hb.2⟩
theorem KF.i {s s' : Sg} (h : KF s s') {a : Nat} (k : Nat) (ha : (decide (17 ≤ a) && decide (a ≤ 20) || a == 5) = false) : mI s' a k = mI s a k := (h.2.2 a k (fun h9 => by simp [h9.1, h9.2] at ha) (fun h9 => by simp [h9.1] at ha)).1
/-- the row is worked out -/
def FLD (s : Sg) (q : Nat) : Prop := mI s 18 q = mI s 6 5
theorem KF.fl {s s' : Sg} (h : KF s s') {q : Nat} (k : FLD s q) : FLD s' q := h.1.2 q k
/-- .. the working out of a line -/
def KL (s s' : Sg) : Prop := mN s' = mN s ∧ s'.2.2.1 = s.2.2.1 ∧ ∀ a k, a ≠ 20 → mI s' a k = mI s a k ∧ mL s' a k = mL s a k
theorem KL.f {s s' : Sg} (h : KL s s') : KF s s' := ⟨⟨h.1, fun j hj => by rw [(h.2.2 18 j (by decide)).1, (h.2.2 6 5 (by decide)).1]; exact hj⟩, h.2.1, fun a k ha _ => h.2.2 a k (fun e => ha (by omega))⟩
/-- what lines with such code come to -/
def CV (W : Vw) (e c : Nat → Int32) : Prop := ∀ l, l < kN W → ∀ q, q < 4 ^ pN W → ∀ s, zl_B s → (∀ k, k < 9 → mI s 11 k = e k) → (∀ k, k < 1000 → mI s 12 k = c k) → ∃ s', f_Wo_lineValue (nI l) (nI q) s = some (W 68 (256 * l + q), s') ∧ KL s s'
/-- what is told, seen from an object's own places -/
def TV (W : Vw) (g : Nat → Nat → Int32) : Prop :=
  (g 0 0 = W 46 10 ∧ g 0 1 = W 46 11 ∧ g 0 2 = W 46 12 ∧ g 0 3 = W 46 46 ∧ g 0 4 = W 46 47 ∧ g 0 5 = W 46 45) ∧
  (∀ p, p < pN W → g 1 p = W 49 p) ∧ (∀ k, k < 16 → g 2 k = W 50 k) ∧ (∀ l, l < kN W → g 3 l = W 51 l ||| (W 52 l <<< 4)) ∧
  (∀ t, t < 3 → g 6 t = W 69 t ∧ g 7 t = W 70 t ∧ ((W 73 t = 0 ∧ g 9 t = 0) ∨ (W 73 t = 1 ∧ g 8 t = W 71 t ∧ g 9 t = W 72 t ∧ ¬ W 72 t = 0))) ∧
  CV W (g 4) (g 5)
def vT (s : Sg) (b : Nat) : Nat → Nat → Int32 := fun j k => mI s (b + j) k
/-- the class knows the world W: what is told, and the tenths of a line -/
def KB (W : Vw) (s : Sg) : Prop := zl_B s ∧ WV W ∧ TV W (vT s 7) ∧ mI s 6 7 = W 46 39 ∧ (W 46 39 = 10 ∨ mI s 6 6 = W 46 38) ∧ is_n (W 46 39) 40 ∧ (∀ k, mI s 1 k = zs_or k)
/-- .. and the rows that are worked out are right -/
def RWr (W : Vw) (s : Sg) : Prop := ∀ q, q < 4 ^ pN W → mI s 18 q = mI s 6 5 → ∀ t, t < 2 ^ tN W → ∀ u, u < 2 ^ pN W → mI s 17 (q * 128 + (t * 16 + u)) = sWo W (nI u) (nI t) q
/-- no row is of a later age -/
def AGE (s : Sg) : Prop := mI s 6 5 = nI (mI s 6 5).toNatClampNeg ∧ ∀ q, q < 256 → ∃ f, mI s 18 q = nI f ∧ f ≤ (mI s 6 5).toNatClampNeg
def KT (W : Vw) (s : Sg) : Prop := KB W s ∧ RWr W s ∧ AGE s
theorem vT_fr {s s' : Sg} (h : KF s s') {j : Nat} (hj : j < 10) : vT s' 7 j = vT s 7 j := by
  funext k
  exact (h.2.2 (7 + j) k (by omega) (by omega)).1
theorem TV_cg {W : Vw} {g g' : Nat → Nat → Int32} (h : TV W g) (e : ∀ j, j < 10 → g' j = g j) : TV W g' := by
  unfold TV at h ⊢
  rw [e 0 (by decide), e 1 (by decide), e 2 (by decide), e 3 (by decide), e 4 (by decide), e 5 (by decide), e 6 (by decide), e 7 (by decide), e 8 (by decide), e 9 (by decide)]
  exact h
theorem KB.fr {W : Vw} {s s' : Sg} (h : KB W s) (f : KF s s') : KB W s' := by
  obtain ⟨b, w, t, h7, h6, h4, ho⟩ := h
  refine ⟨f.b b, w, TV_cg t (fun j hj => vT_fr f hj), ?_, ?_, h4, fun k => (f.i k rfl).trans (ho k)⟩
  · rw [f.i 7 rfl]; exact h7
  · rw [f.i 6 rfl]; exact h6
variable {W : Vw} {s : Sg}
theorem KB.b (h : KB W s) : zl_B s := h.1
theorem KB.w (h : KB W s) : WV W := h.2.1
theorem KB.p4 (h : KB W s) : pN W ≤ 4 := h.w.1.2
theorem KB.t3 (h : KB W s) : tN W ≤ 3 := h.w.2.1.2
theorem KB.k8 (h : KB W s) : kN W ≤ 8 := h.w.2.2.1.2
theorem KB.pe (h : KB W s) : mI s 7 0 = nI (pN W) := (h.2.2.1.1.1).trans h.w.1.1
theorem KB.th (h : KB W s) : mI s 7 1 = nI (tN W) := (h.2.2.1.1.2.1).trans h.w.2.1.1
theorem KB.li (h : KB W s) : mI s 7 2 = nI (kN W) := (h.2.2.1.1.2.2.1).trans h.w.2.2.1.1
theorem KB.ki (h : KB W s) : mI s 7 3 = W 46 46 := h.2.2.1.1.2.2.2.1
theorem KB.as (h : KB W s) : mI s 7 4 = W 46 47 := h.2.2.1.1.2.2.2.2.1
theorem KB.te (h : KB W s) : mI s 7 5 = W 46 45 := h.2.2.1.1.2.2.2.2.2
theorem KB.st (h : KB W s) {p : Nat} (hp : p < pN W) : mI s 8 p = nI (sN W p) := (h.2.2.1.2.1 p hp).trans (h.w.2.2.2.1 p hp).1
theorem KB.co (h : KB W s) {k : Nat} (hk : k < 16) : mI s 9 k = W 50 k := h.2.2.1.2.2.1 k hk
theorem KB.wi (h : KB W s) {l : Nat} (hl : l < kN W) : mI s 10 l = W 51 l ||| (W 52 l <<< 4) := h.2.2.1.2.2.2.1 l hl
theorem KB.ow (h : KB W s) {t : Nat} (ht : t < 3) : mI s 13 t = W 69 t := (h.2.2.1.2.2.2.2.1 t ht).1
theorem KB.ne (h : KB W s) {t : Nat} (ht : t < 3) : mI s 14 t = W 70 t := (h.2.2.1.2.2.2.2.1 t ht).2.1
theorem KB.la (h : KB W s) {t : Nat} (ht : t < 3) : (W 73 t = 0 ∧ mI s 16 t = 0) ∨ (W 73 t = 1 ∧ mI s 15 t = W 71 t ∧ mI s 16 t = W 72 t ∧ ¬ W 72 t = 0) := (h.2.2.1.2.2.2.2.1 t ht).2.2
theorem KB.cv (h : KB W s) : CV W (fun k => mI s 11 k) (fun k => mI s 12 k) := h.2.2.1.2.2.2.2.2
theorem KB.or (h : KB W s) (k : Nat) : mI s 1 k = zs_or k := h.2.2.2.2.2.2 k
theorem KB.at7 (h : KB W s) : zl_at s 7 2 := ⟨by decide, by have := h.b.1; omega, by decide, by decide⟩
theorem k_isWithin (x : Int32) (m : Int32) : f_Wk_isWithin x m s = some (if wi x 0 m = true then 1 else 0, s) := by
  unfold f_Wk_isWithin wi
  by_cases h1 : x < 0
  · simp [h1]
  · by_cases h2 : m < x <;> simp [h1, h2]
theorem k_isSet (x : Int32) {n : Nat} (hn : n ≤ 7) : f_Wk_isSet x (nI n) s = some (if xb x (2 ^ n) = true then 1 else 0, s) := by
  unfold f_Wk_isSet xb
  rw [shl_p n hn]
  by_cases h1 : x < 0
  · simp [h1]
  · by_cases h2 : nI (2 ^ n) ≤ x <;> simp [h1, h2]
theorem k_isPerson (h : KB W s) (x : Int32) : f_Wk_isPerson x s = some (if xb x (pN W) = true then 1 else 0, s) := by
  unfold f_Wk_isPerson xb
  by_cases h1 : x < 0
  · simp [h1]
  · rw [if_neg h1, f_ck_of h.b, h.pe]
    by_cases h2 : nI (pN W) ≤ x <;> simp [h1, h2]
theorem k_isThing (h : KB W s) (x : Int32) : f_Wk_isThing x s = some (if xb x (tN W) = true then 1 else 0, s) := by
  unfold f_Wk_isThing xb
  by_cases h1 : x < 0
  · simp [h1]
  · rw [if_neg h1, f_ck_of h.b, h.th]
    by_cases h2 : nI (tN W) ≤ x <;> simp [h1, h2]
theorem k_isNobody (h : KB W s) : f_Wk_isNobody s = some (if bP W = true then 0 else 1, s) := by
  have hp4 := h.p4
  unfold f_Wk_isNobody bP
  rw [f_ck_of h.b, h.pe]
  by_cases c : 0 < pN W
  · rw [if_neg (nI_ne0 c (by omega)), if_pos (by simpa using c)]
  · obtain e : pN W = 0 := by omega
    rw [e]; rfl
theorem k_stepIn {q p : Nat} (hq : q < 256) (hp : p < 4) : f_Wk_stepIn (nI q) (nI p) s = some (nI (sStep q p), s) := by
  unfold f_Wk_stepIn
  rw [step_bits hq hp]
theorem k_all (h : KB W s) : f_To_all 7 s = some (nI (2 ^ pN W - 1), s) := by
  unfold f_To_all
  rw [f_ck_of h.at7, h.pe, shl_p _ (by have := h.p4; omega)]
  obtain ⟨m, hm⟩ : ∃ m, 2 ^ pN W = m + 1 := ⟨2 ^ pN W - 1, by have := @Nat.one_le_two_pow (pN W); omega⟩
  rw [hm, nI_pred]; rfl
theorem k_isPains_h (h : KB W s) {q : Nat} (hq : q < 256) : ∀ (k j n : Nat), j + k = pN W → k < n → f_Wk_isPains_h23 n (nI q) (nI j) s = some (if sAll (fun p => decide (sStep q p ≤ sN W p)) k j = true then 1 else 0, s) := by
  have hp4 := h.p4
  intro k
  induction k with
  | zero =>
    intro j n hj hn
    obtain ⟨n, rfl⟩ : ∃ m, n = m + 1 := ⟨n - 1, by omega⟩
    show f_Wk_isPains_b23 _ _ _ _ = _
    unfold f_Wk_isPains_b23
    rw [f_ck_of h.b, h.pe, if_pos (nI_le (by omega) (by omega))]
    rfl
  | succ k ih =>
    intro j n hj hn
    obtain ⟨n, rfl⟩ : ∃ m, n = m + 1 := ⟨n - 1, by omega⟩
    show f_Wk_isPains_b23 _ _ _ _ = _
    unfold f_Wk_isPains_b23
    have h3 : sN W j < 2 ^ 31 := by have := (h.w.2.2.2.1 j (by omega)).2.2; omega
    rw [f_ck_of h.b, h.pe, if_neg (nI_ge (by omega) (by omega)), f_bd_of (k_stepIn hq (by omega)), f_ck_of h.b, f_ck_of (vp_in_nI (by omega) (by decide)), nI_clamp (by omega), h.st (by omega), nI_1]
    by_cases hc : sStep q j ≤ sN W j
    · rw [if_pos ((nI_leI (by have := sStep_lt q j; omega) h3).mpr hc), ih (j + 1) n (by omega) (by omega)]
      simp [sAll, hc]
    · rw [if_neg (fun h9 => hc ((nI_leI (by have := sStep_lt q j; omega) h3).mp h9))]
      simp [sAll, hc]
theorem k_isPains (h : KB W s) (x : Int32) : f_Wk_isPains x s = some (if xpa W x = true then 1 else 0, s) := by
  have hp4 := h.p4
  have h256 := p4_le hp4
  unfold f_Wk_isPains xpa
  by_cases h1 : x < 0
  · simp [h1]
  · rw [if_neg h1, f_ck_of h.b, h.pe, shl_2p _ hp4]
    obtain ⟨q, hq, rfl⟩ := nI_of h1
    rw [nI_clamp hq]
    have hx : (!decide (nI q < 0) && vpa W q) = vpa W q := by simp [nI_pos hq]
    rw [hx]
    by_cases h2 : q < 4 ^ pN W
    · rw [if_pos ((nI_ltI hq (by omega)).mpr h2)]
      have h3 := k_isPains_h h (q := q) (by omega) (pN W) 0 zl_fl (by omega) (zl_fl_lt (by omega))
      refine h3.trans ?_
      simp [vpa, h2]
    · rw [if_neg (fun h9 => h2 ((nI_ltI hq (by omega)).mp h9))]
      simp [vpa, h2]
theorem k_isPainsN (h : KB W s) {q : Nat} (hq : q < 2 ^ 31) : f_Wk_isPains (nI q) s = some (if vpa W q = true then 1 else 0, s) := by
  have e : xpa W (nI q) = vpa W q := by
    unfold xpa
    rw [nI_clamp hq]
    simp [nI_pos hq]
  rw [k_isPains h, e]
theorem k_isStep (h : KB W s) (x1 x2 : Int32) : f_Wk_isStep x1 x2 s = some (if stp W x1 x2 = true then 1 else 0, s) := by
  have hp4 := h.p4
  unfold f_Wk_isStep stp
  simp only [f_ck_of h.b, f_bd_of (k_isPerson h x1), ite10]
  by_cases c : xb x1 (pN W) = true
  · obtain ⟨p, hp, rfl⟩ := xb_t c (by omega)
    rw [if_pos c, c, nI_clamp (by omega), f_ck_of (vp_in_nI (by omega) (by decide)), h.st hp]
    unfold wi
    by_cases h1 : x2 < 0
    · simp [h1]
    · by_cases h2 : nI (sN W p) < x2 <;> simp [h1, h2]
  · rw [if_neg c, if_neg (by simp [c])]
theorem bc_16 : ∀ n, n < 16 → f_In_bitCount (nI n) s = some (nI (sBits n), s) := by
  have h : ∀ n, n < 16 → (let v1 : Int32 := (nI n - (((Int32.toUInt32 (nI n) >>> (Int32.toUInt32 1 &&& Int32.toUInt32 31)).toInt32) &&& 1431655765))
    let v2 : Int32 := ((v1 &&& 858993459) + (((Int32.toUInt32 v1 >>> (Int32.toUInt32 2 &&& Int32.toUInt32 31)).toInt32) &&& 858993459))
    let v3 : Int32 := ((v2 + ((Int32.toUInt32 v2 >>> (Int32.toUInt32 4 &&& Int32.toUInt32 31)).toInt32)) &&& 252645135)
    let v4 : Int32 := (v3 + ((Int32.toUInt32 v3 >>> (Int32.toUInt32 8 &&& Int32.toUInt32 31)).toInt32))
    let v5 : Int32 := (v4 + ((Int32.toUInt32 v4 >>> (Int32.toUInt32 16 &&& Int32.toUInt32 31)).toInt32))
    v5 &&& 63) = nI (sBits n) := by decide +kernel
  intro n hn
  unfold f_In_bitCount
  exact congrArg (fun x => some (x, s)) (h n hn)
/-! bits of sets -/
theorem bv_sub (x y : BitVec 32) : x &&& ~~~y = 0#32 ↔ x &&& y = x := by
  constructor
  · intro h
    apply BitVec.eq_of_getLsbD_eq
    intro i hi
    have := congrArg (fun z => z.getLsbD i) h
    simp [hi] at this ⊢
    exact this
  · intro h
    apply BitVec.eq_of_getLsbD_eq
    intro i hi
    have := congrArg (fun z => z.getLsbD i) h
    simp [hi] at this ⊢
    exact this
theorem in_sub (x y : Int32) : x &&& (y ^^^ (-1)) = 0 ↔ x &&& y = x := by
  have e : (y ^^^ (-1)).toBitVec = ~~~y.toBitVec := by
    rw [Int32.toBitVec_xor]
    have : (-1 : Int32).toBitVec = BitVec.allOnes 32 := by decide
    rw [this, BitVec.xor_allOnes]
  rw [← Int32.toBitVec_inj, ← Int32.toBitVec_inj, Int32.toBitVec_and, Int32.toBitVec_and, e]
  exact bv_sub _ _
theorem in_subN {a b : Nat} (ha : a < 2 ^ 31) : nI a &&& (nI b ^^^ (-1)) = 0 ↔ a &&& b = a := by
  rw [in_sub, nI_and]
  exact nI_eq (Nat.lt_of_le_of_lt Nat.and_le_left ha) ha
theorem sub_a : ∀ a, a < 128 → ∀ b, b < 128 → ((a &&& b = a) ↔ (a % 16 &&& b % 16 = a % 16 ∧ a / 16 &&& b / 16 = a / 16)) := by decide +kernel
theorem or_16r : ∀ t, t < 8 → ∀ u, u < 16 → (u ||| t * 16) = t * 16 + u := by decide +kernel
theorem or_16 : ∀ t, t < 8 → ∀ u, u < 16 → t * 16 ||| u = t * 16 + u := by decide +kernel
theorem sub_two {lt t lp u : Nat} (h1 : lt < 8) (h2 : t < 8) (h3 : lp < 16) (h4 : u < 16) : (((lp ||| lt * 16) &&& (t * 16 + u) = (lp ||| lt * 16)) ↔ (lp &&& u = lp ∧ lt &&& t = lt)) ∧ (lp ||| lt * 16) < 128 := by
  rw [or_16r lt h1 lp h3, sub_a _ (by omega) _ (by omega)]
  rw [show (lt * 16 + lp) % 16 = lp by omega, show (t * 16 + u) % 16 = u by omega, show (lt * 16 + lp) / 16 = lt by omega, show (t * 16 + u) / 16 = t by omega]
  exact ⟨Iff.rfl, by omega⟩
theorem or_128 {q w : Nat} (hw : w < 128) : q * 128 ||| w = q * 128 + w := by
  have h1 := Nat.shiftLeft_add_eq_or_of_lt (b := w) (i := 7) hw q
  rw [Nat.shiftLeft_eq] at h1
  exact h1.symm
theorem shl4 {t : Nat} (ht : t < 8) : nI t <<< ((4 : Int32) &&& 31) = nI (t * 16) := pk_shlN _ 4 (by decide) (by omega)
theorem shl7 {q : Nat} (hq : q < 256) : nI q <<< ((7 : Int32) &&& 31) = nI (q * 128) := pk_shlN _ 7 (by decide) (by omega)
end
