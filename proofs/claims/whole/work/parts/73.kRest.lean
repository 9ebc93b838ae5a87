/-! hands, apart, count: the class -/
section
theorem hands_b (A x y : Int32) : (A &&& (x ^^^ (-1))) &&& (y ^^^ (-1)) = A &&& ((x ||| y) ^^^ (-1)) := by
  have e : ∀ z : Int32, (z ^^^ (-1)).toBitVec = ~~~z.toBitVec := by
    intro z
    rw [Int32.toBitVec_xor]
    have : (-1 : Int32).toBitVec = BitVec.allOnes 32 := by decide
    rw [this, BitVec.xor_allOnes]
  apply Int32.toBitVec_inj.mp
  rw [Int32.toBitVec_and, Int32.toBitVec_and, Int32.toBitVec_and, e, e, e, Int32.toBitVec_or]
  apply BitVec.eq_of_getLsbD_eq
  intro i hi
  simp [hi, Bool.and_assoc]
variable {V : Vw} {s : Sg}
theorem k_hands_h (h : KT (askW V) s) : ∀ (k t n : Nat) (a : Int32), t + k = tN (askW V) → k < n → f_Wk_hands_h13 n a (nI t) s = some (sHandsL V k t (nI (2 ^ pN (askW V) - 1) &&& (a ^^^ (-1))), s) := by
  have ht3 := h.1.t3
  intro k
  induction k with
  | zero =>
    intro t n a ht hn
    obtain ⟨n, rfl⟩ : ∃ m, n = m + 1 := ⟨n - 1, by omega⟩
    show f_Wk_hands_b13 _ _ _ _ = _
    unfold f_Wk_hands_b13 f_Wk_hands_b42
    rw [f_ck_of h.1.b, h.1.th, if_pos (nI_le (by omega) (by omega)), f_ck_of h.1.b, f_bd_of (k_all h.1)]
    rfl
  | succ k ih =>
    intro t n a ht hn
    obtain ⟨n, rfl⟩ : ∃ m, n = m + 1 := ⟨n - 1, by omega⟩
    have e69 : askW V 69 t = V 69 t := kW_no rfl
    show f_Wk_hands_b13 _ _ _ _ = some (sHandsL V k (t + 1) ((nI (2 ^ pN (askW V) - 1) &&& (a ^^^ (-1))) &&& (V 69 t ^^^ (-1))), s)
    unfold f_Wk_hands_b13
    rw [f_ck_of h.1.b, h.1.th, if_neg (nI_ge (by omega) (by omega)), f_ck_of (vp_in_nI (by omega) (by decide)), nI_clamp (by omega), h.1.ow (by omega), e69, nI_1, hands_b]
    exact ih (t + 1) n _ (by omega) (by omega)
theorem kq_hands (h : KT (askW V) s) (hp : PL V s) : QK V s (f_Wk_hands s) (aHands V) := by
  have ht3 := h.1.t3
  unfold f_Wk_hands aHands nB
  simp only [f_ck_of h.1.b, f_bd_of (k_isNobody h.1), ite01, ak_b]
  by_cases c : bP V = true
  · rw [if_pos c, if_pos c]
    have e := k_hands_h h (tN (askW V)) 0 zl_fl 0 (by omega) (zl_fl_lt (by omega))
    have e0 : ∀ x : Int32, x &&& ((0 : Int32) ^^^ (-1)) = x := by
      intro x
      apply Int32.toBitVec_inj.mp
      rw [Int32.toBitVec_and]
      have : ((0 : Int32) ^^^ (-1)).toBitVec = BitVec.allOnes 32 := by decide
      rw [this, BitVec.and_allOnes]
    rw [e0, ak_p, ak_t] at e
    exact QK.mk hp e h (K0.rf s)
  · rw [if_neg c, if_neg c]
    exact QK.mk hp rfl h (K0.rf s)
/-! apart -/
theorem bar_ok : ∀ w, w < 8 → ∀ a, a < 3 → ∀ b, b < 3 → ((w &&& (2 ^ a ||| 2 ^ b) = 0) ↔ ¬ w / 2 ^ a % 2 = 1 ∧ ¬ w / 2 ^ b % 2 = 1) := by decide
def apU (W : Vw) (a w q : Nat) (u : Nat) : Bool := decide (sWo W (nI u) (nI (w ||| 2 ^ a)) q ≤ sWo W (nI u) (nI w) q)
def apQ (W : Vw) (a b q : Nat) (w : Nat) : Bool := decide (w / 2 ^ a % 2 = 1) || (decide (w / 2 ^ b % 2 = 1) || sAll (apU W a w q) (2 ^ pN W) 0)
def apN (W : Vw) (a b q : Nat) : Bool := sAll (apQ W a b q) (2 ^ tN W) 0
theorem ap_eq (W : Vw) (a b : Nat) : adN W a b = true ↔ ∀ q, q < 4 ^ pN W → vpa W q = true → apN W a b q = true := by
  unfold adN apN
  rw [sAll_iff]
  constructor
  · intro h q hq hv
    rw [sAll_iff]
    intro w _ hw
    unfold apQ
    by_cases c1 : w / 2 ^ a % 2 = 1
    · simp [c1]
    · by_cases c2 : w / 2 ^ b % 2 = 1
      · simp [c2]
      · have k : sAll (apU W a w q) (2 ^ pN W) 0 = true := by
          rw [sAll_iff]
          intro u _ hu
          have h1 := h u (Nat.zero_le _) hu
          unfold adU at h1
          rw [sAll_iff] at h1
          have h2 := h1 w (Nat.zero_le _) hw
          unfold adW at h2
          rw [decide_eq_false c1, decide_eq_false c2, Bool.false_or, Bool.false_or, sAll_iff] at h2
          have h3 := h2 q (Nat.zero_le _) (by omega)
          unfold adQ at h3
          rw [hv] at h3
          exact h3
        rw [k]; simp
  · intro h u _ hu
    unfold adU
    rw [sAll_iff]
    intro w _ hw
    unfold adW
    by_cases c1 : w / 2 ^ a % 2 = 1
    · simp [c1]
    · by_cases c2 : w / 2 ^ b % 2 = 1
      · simp [c2]
      · have k : sAll (adQ W a u w) (4 ^ pN W) 0 = true := by
          rw [sAll_iff]
          intro q _ hq
          unfold adQ
          cases hv : vpa W q with
          | false => rfl
          | true =>
            have h1 := h q (by omega) hv
            rw [sAll_iff] at h1
            have h2 := h1 w (Nat.zero_le _) hw
            unfold apQ at h2
            rw [decide_eq_false c1, decide_eq_false c2, Bool.false_or, Bool.false_or, sAll_iff] at h2
            exact h2 u (Nat.zero_le _) hu
        rw [k]; simp
theorem k_add29 {a b q w : Nat} (ha : a < tN (askW V)) (hb : b < tN (askW V)) (hq : q < 4 ^ pN (askW V)) (hw : w < 2 ^ tN (askW V)) (hbar : w &&& (2 ^ a ||| 2 ^ b) = 0) (R12 : Int32 → Int32 → Int32 → Int32 → Sg → Option (Int32 × Sg)) : ∀ (k u n : Nat) (s : Sg), KT (askW V) s → u + k = 2 ^ pN (askW V) → k < n →
    ∃ s', f_Wk_addsApart_h29 R12 n (nI a) (nI q) (nI (2 ^ a ||| 2 ^ b)) (nI w) (nI u) s = (if sAll (apU (askW V) a w q) k u = true then R12 (nI a) (nI q) (nI (2 ^ a ||| 2 ^ b)) (nI (w + 1)) s' else some (1, s')) ∧ KT (askW V) s' ∧ KF s s' := by
  intro k
  induction k with
  | zero =>
    intro u n s h hu hn
    obtain ⟨n, rfl⟩ : ∃ m, n = m + 1 := ⟨n - 1, by omega⟩
    have h16 := p2_le h.1.p4
    refine ⟨s, ?_, h, KF.rf s⟩
    show f_Wk_addsApart_b29 _ _ _ _ _ _ _ _ = _
    unfold f_Wk_addsApart_b29 f_Wk_addsApart_b94
    rw [nI_and, hbar, if_pos (show nI 0 = 0 from rfl), f_ck_of h.1.b, h.1.pe, shl_p _ (by have := h.1.p4; omega), if_pos (nI_le (by omega) (by omega)), nI_1]
    rfl
  | succ k ih =>
    intro u n s h hu hn
    obtain ⟨n, rfl⟩ : ∃ m, n = m + 1 := ⟨n - 1, by omega⟩
    have h16 := p2_le h.1.p4
    have ht3 := h.1.t3
    have hwa : w ||| 2 ^ a < 2 ^ tN (askW V) := Nat.or_lt_two_pow hw (Nat.pow_lt_pow_right (by decide) ha)
    obtain ⟨s1, e1, h1, f1⟩ := k_valueOf h hq hw (show u < 2 ^ pN (askW V) by omega)
    obtain ⟨s2, e2, h2, f2⟩ := k_valueOf h1 hq hwa (show u < 2 ^ pN (askW V) by omega)
    show ∃ s', f_Wk_addsApart_b29 _ _ _ _ _ _ _ _ = (if (apU (askW V) a w q u && sAll (apU (askW V) a w q) k (u + 1)) = true then _ else _) ∧ _
    unfold f_Wk_addsApart_b29
    rw [nI_and, hbar, if_pos (show nI 0 = 0 from rfl), f_ck_of h.1.b, h.1.pe, shl_p _ (by have := h.1.p4; omega), if_neg (nI_ge (by omega) (by omega)), f_bd_of e1, f_ck_of h1.1.b, shl_p a (by omega), nI_or, f_bd_of e2, nI_1]
    by_cases c : sWo (askW V) (nI u) (nI (w ||| 2 ^ a)) q ≤ sWo (askW V) (nI u) (nI w) q
    · have eA : apU (askW V) a w q u = true := by unfold apU; simpa using c
      obtain ⟨s3, e3, h3, f3⟩ := ih (u + 1) n s2 h2 (by omega) (by omega)
      rw [if_pos c, eA, Bool.true_and]
      exact ⟨s3, e3, h3, (f1.trans f2).trans f3⟩
    · have eA : apU (askW V) a w q u = false := by unfold apU; simpa using c
      rw [if_neg c, eA, Bool.false_and]
      exact ⟨s2, (if_neg (by decide)).symm, h2, f1.trans f2⟩
theorem k_add12 {a b q : Nat} (ha : a < tN (askW V)) (hb : b < tN (askW V)) (hq : q < 4 ^ pN (askW V)) : ∀ (k w n : Nat) (s : Sg), KT (askW V) s → w + k = 2 ^ tN (askW V) → k < n →
    ∃ s', f_Wk_addsApart_h12 n (nI a) (nI q) (nI (2 ^ a ||| 2 ^ b)) (nI w) s = some (if sAll (apQ (askW V) a b q) k w = true then 0 else 1, s') ∧ KT (askW V) s' ∧ KF s s' := by
  intro k
  induction k with
  | zero =>
    intro w n s h hw hn
    obtain ⟨n, rfl⟩ : ∃ m, n = m + 1 := ⟨n - 1, by omega⟩
    have ht3 := h.1.t3
    have h16 := p2_le (show tN (askW V) ≤ 4 by omega)
    refine ⟨s, ?_, h, KF.rf s⟩
    show f_Wk_addsApart_b12 _ _ _ _ _ _ = _
    unfold f_Wk_addsApart_b12
    rw [f_ck_of h.1.b, h.1.th, shl_p _ (by omega), if_pos (nI_le (by omega) (by omega))]
    rfl
  | succ k ih =>
    intro w n s h hw hn
    obtain ⟨n, rfl⟩ : ∃ m, n = m + 1 := ⟨n - 1, by omega⟩
    have ht3 := h.1.t3
    have hp4 := h.1.p4
    have h16 := p2_le (show tN (askW V) ≤ 4 by omega)
    have h8 := p8 h.1
    have h16p := p2_le hp4
    have hbo := bar_ok w (by omega) a (by omega) b (by omega)
    show ∃ s', f_Wk_addsApart_b12 _ _ _ _ _ _ = some (if (apQ (askW V) a b q w && sAll (apQ (askW V) a b q) k (w + 1)) = true then 0 else 1, s') ∧ _
    unfold f_Wk_addsApart_b12
    rw [f_ck_of h.1.b, h.1.th, shl_p _ (by omega), if_neg (nI_ge (by omega) (by omega))]
    by_cases c : w &&& (2 ^ a ||| 2 ^ b) = 0
    · obtain ⟨c1, c2⟩ := hbo.mp c
      obtain ⟨s1, e1, h1, f1⟩ := k_add29 ha hb hq (show w < 2 ^ tN (askW V) by omega) c (f_Wk_addsApart_h12 n) (2 ^ pN (askW V)) 0 zl_fl s h (by omega) (zl_fl_lt (by omega))
      have e1' : f_Wk_addsApart_h29 (f_Wk_addsApart_h12 n) zl_fl (nI a) (nI q) (nI (2 ^ a ||| 2 ^ b)) (nI w) 0 s = _ := e1
      rw [e1']
      have eq : apQ (askW V) a b q w = sAll (apU (askW V) a w q) (2 ^ pN (askW V)) 0 := by
        unfold apQ
        rw [decide_eq_false c1, decide_eq_false c2, Bool.false_or, Bool.false_or]
      rw [eq]
      by_cases c3 : sAll (apU (askW V) a w q) (2 ^ pN (askW V)) 0 = true
      · obtain ⟨s2, e2, h2, f2⟩ := ih (w + 1) n s1 h1 (by omega) (by omega)
        rw [if_pos c3, c3, Bool.true_and]
        exact ⟨s2, e2, h2, f1.trans f2⟩
      · have c3' : sAll (apU (askW V) a w q) (2 ^ pN (askW V)) 0 = false := by simpa using c3
        rw [if_neg c3, c3', Bool.false_and, if_neg (by decide)]
        exact ⟨s1, rfl, h1, f1⟩
    · have eq : apQ (askW V) a b q w = true := by
        unfold apQ
        by_cases c1 : w / 2 ^ a % 2 = 1
        · simp [c1]
        · by_cases c2 : w / 2 ^ b % 2 = 1
          · simp [c2]
          · exact absurd (hbo.mpr ⟨c1, c2⟩) c
      obtain ⟨s2, e2, h2, f2⟩ := ih (w + 1) n s h (by omega) (by omega)
      rw [eq, Bool.true_and]
      refine ⟨s2, Eq.trans ?_ e2, h2, f2⟩
      show f_Wk_addsApart_b29 _ _ _ _ _ _ _ _ = _
      unfold f_Wk_addsApart_b29 f_Wk_addsApart_b94
      have hlt : w &&& (2 ^ a ||| 2 ^ b) < 2 ^ 31 := Nat.lt_of_le_of_lt Nat.and_le_left (by omega)
      rw [nI_and, if_neg (show ¬ nI (w &&& (2 ^ a ||| 2 ^ b)) = 0 from nI_ne0 (by omega) hlt), nI_1]
theorem k_addsApart (h : KT (askW V) s) {a b q : Nat} (ha : a < tN (askW V)) (hb : b < tN (askW V)) (hq : q < 4 ^ pN (askW V)) : ∃ s', f_Wk_addsApart (nI a) (nI b) (nI q) s = some (if apN (askW V) a b q = true then 0 else 1, s') ∧ KT (askW V) s' ∧ KF s s' := by
  have ht3 := h.1.t3
  have h16 := p2_le (show tN (askW V) ≤ 4 by omega)
  obtain ⟨s1, e1, h1, f1⟩ := k_add12 ha hb hq (2 ^ tN (askW V)) 0 zl_fl s h (by omega) (zl_fl_lt (by omega))
  refine ⟨s1, ?_, h1, f1⟩
  unfold f_Wk_addsApart
  simp only [shl_p a (show a ≤ 7 by omega), shl_p b (show b ≤ 7 by omega), nI_or]
  exact e1
def apG (W : Vw) (a b : Nat) (q : Nat) : Bool := !vpa W q || (apN W a b q && apN W b a q)
theorem k_apart_h {a b : Nat} (ha : a < tN (askW V)) (hb : b < tN (askW V)) : ∀ (k q n : Nat) (s : Sg), KT (askW V) s → q + k = 256 → k < n → ∃ s', f_Wk_apart_h25 n (nI a) (nI b) (nI q) s = some (b2i (sAll (apG (askW V) a b) k q), s') ∧ KT (askW V) s' ∧ KF s s' := by
  intro k
  induction k with
  | zero =>
    intro q n s h hq hn
    obtain ⟨n, rfl⟩ : ∃ m, n = m + 1 := ⟨n - 1, by omega⟩
    obtain rfl : q = 256 := by omega
    exact ⟨s, rfl, h, KF.rf s⟩
  | succ k ih =>
    intro q n s h hq hn
    obtain ⟨n, rfl⟩ : ∃ m, n = m + 1 := ⟨n - 1, by omega⟩
    have hi := fun s1 h1 => ih (q + 1) n s1 h1 (by omega) (by omega)
    show ∃ s', f_Wk_apart_b25 _ _ _ _ _ = some (b2i (apG (askW V) a b q && sAll (apG (askW V) a b) k (q + 1)), s') ∧ _
    unfold f_Wk_apart_b25 f_Wk_apart_b62
    rw [if_neg (show ¬ (256 : Int32) ≤ nI q from nI_ge (b := 256) (by omega) (by decide)), f_ck_of h.1.b, f_bd_of (k_isPainsN h.1 (show q < 2 ^ 31 by omega)), ite10, nI_1]
    unfold apG
    by_cases c : vpa (askW V) q = true
    · obtain ⟨s1, e1, h1, f1⟩ := k_addsApart h ha hb (vpa_lt c)
      obtain ⟨s2, e2, h2, f2⟩ := k_addsApart h1 hb ha (vpa_lt c)
      rw [if_pos c, f_ck_of h.1.b, f_bd_of e1, c]
      have z1 : ¬ (1 : Int32) = 0 := by decide
      by_cases d1 : apN (askW V) a b q = true
      · rw [if_pos d1, if_pos rfl, f_ck_of h1.1.b, f_bd_of e2, d1]
        by_cases d2 : apN (askW V) b a q = true
        · rw [if_pos d2, if_pos rfl, d2]
          obtain ⟨s3, e3, h3, f3⟩ := hi s2 h2
          exact ⟨s3, e3, h3, (f1.trans f2).trans f3⟩
        · have d2' : apN (askW V) b a q = false := by simpa using d2
          rw [if_neg d2, if_neg z1, d2']
          exact ⟨s2, rfl, h2, f1.trans f2⟩
      · have d1' : apN (askW V) a b q = false := by simpa using d1
        rw [if_neg d1, if_neg z1, d1']
        exact ⟨s1, rfl, h1, f1⟩
    · have c' : vpa (askW V) q = false := by simpa using c
      rw [if_neg c, c']
      exact hi s h
theorem kq_apart (h : KT (askW V) s) (hp : PL V s) (x1 x2 : Int32) : QK V s (f_Wk_apart x1 x2 s) (aApart V x1 x2) := by
  have ht3 := h.1.t3
  have h256 := p4_le h.1.p4
  have hno : bApart V x1 x2 = false → QK V s (some ((-1 : Int32), s)) (aApart V x1 x2) := by
    intro e
    unfold aApart nB
    rw [e, if_neg (by decide)]
    exact QK.mk hp rfl h (K0.rf s)
  unfold f_Wk_apart
  simp only [f_ck_of h.1.b, f_bd_of (k_isThing h.1 x1), f_bd_of (k_isThing h.1 x2), ite10]
  by_cases c1 : xb x1 (tN (askW V)) = true
  · rw [if_pos c1]
    by_cases c2 : xb x2 (tN (askW V)) = true
    · rw [if_pos c2]
      by_cases c3 : x1 = x2
      · rw [if_pos c3]; exact hno (by unfold bApart; simp [c3])
      · have hc : bApart V x1 x2 = true := by unfold bApart; rw [← ak_t V, c1, c2]; simp [c3]
        obtain ⟨a, ha, rfl⟩ := xb_t c1 (by omega)
        obtain ⟨b, hb, rfl⟩ := xb_t c2 (by omega)
        rw [if_neg c3]
        unfold aApart nB
        rw [hc, if_pos rfl, nI_clamp (by omega), nI_clamp (by omega)]
        obtain ⟨s1, e1, h1, f1⟩ := k_apart_h (V := V) ha hb 256 0 zl_fl s h (by decide) (zl_fl_lt (by decide))
        refine QK.mk hp (Eq.trans e1 ?_) h1 f1.z
        have e : sAll (apG (askW V) a b) 256 0 = (adN (askW V) a b && adN (askW V) b a) := by
          rw [Bool.eq_iff_iff, Bool.and_eq_true, ap_eq, ap_eq, sAll_iff]
          constructor
          · intro h9
            have h8 : ∀ q, q < 4 ^ pN (askW V) → vpa (askW V) q = true → apN (askW V) a b q = true ∧ apN (askW V) b a q = true := by
              intro q hq hv
              have h7 := h9 q (Nat.zero_le _) (by omega)
              unfold apG at h7
              rw [hv] at h7
              simpa using h7
            exact ⟨fun q hq hv => (h8 q hq hv).1, fun q hq hv => (h8 q hq hv).2⟩
          · rintro ⟨h7, h8⟩ q _ _
            unfold apG
            cases hv : vpa (askW V) q with
            | false => rfl
            | true =>
              have hq := vpa_lt hv
              rw [h7 q hq hv, h8 q hq hv]
              rfl
        rw [e]
    · rw [if_neg c2]; exact hno (by rw [ak_t] at c2; unfold bApart; simp [c2])
  · rw [if_neg c1]; exact hno (by rw [ak_t] at c1; unfold bApart; simp [c1])
end
