/-! long numbers that are small -/
section
theorem bmod_id {x : Int} (h1 : -(2 ^ 63 : Int) ≤ x) (h2 : x < 2 ^ 63) : x.bmod (2 ^ 64) = x := by
  have e : ((2 ^ 64 : Nat) : Int) = 18446744073709551616 := by decide
  have e2 : (2 ^ 63 : Int) = 9223372036854775808 := by decide
  rw [e2] at h1 h2
  rw [Int.bmod_def, e]
  split <;> omega
def bdL (x : Int64) (B : Nat) : Prop := -(B : Int) ≤ x.toInt ∧ x.toInt ≤ (B : Int)
theorem bdL_mono {x : Int64} {A B : Nat} (h : bdL x A) (hAB : A ≤ B) : bdL x B := ⟨by have := h.1; omega, by have := h.2; omega⟩
theorem toInt_add {x y : Int64} {A B : Nat} (hx : bdL x A) (hy : bdL y B) (h : A + B < 2 ^ 63) : (x + y).toInt = x.toInt + y.toInt := by
  have h1 := hx.1; have h2 := hx.2; have h3 := hy.1; have h4 := hy.2
  rw [Int64.toInt_add]
  exact bmod_id (by omega) (by omega)
theorem toInt_sub {x y : Int64} {A B : Nat} (hx : bdL x A) (hy : bdL y B) (h : A + B < 2 ^ 63) : (x - y).toInt = x.toInt - y.toInt := by
  have h1 := hx.1; have h2 := hx.2; have h3 := hy.1; have h4 := hy.2
  rw [Int64.toInt_sub]
  exact bmod_id (by omega) (by omega)
theorem mul_bd {a b : Int} {A B : Nat} (h1 : -(A : Int) ≤ a) (h2 : a ≤ A) (h3 : -(B : Int) ≤ b) (h4 : b ≤ B) : -((A * B : Nat) : Int) ≤ a * b ∧ a * b ≤ ((A * B : Nat) : Int) := by
  have k : (a * b).natAbs ≤ A * B := by
    rw [Int.natAbs_mul]
    exact Nat.mul_le_mul (by omega) (by omega)
  omega
theorem toInt_mul {x y : Int64} {A B : Nat} (hx : bdL x A) (hy : bdL y B) (h : A * B < 2 ^ 63) : (x * y).toInt = x.toInt * y.toInt := by
  have hm := mul_bd hx.1 hx.2 hy.1 hy.2
  rw [Int64.toInt_mul]
  exact bmod_id (by omega) (by omega)
theorem bdL_add {x y : Int64} {A B : Nat} (hx : bdL x A) (hy : bdL y B) (h : A + B < 2 ^ 63) : bdL (x + y) (A + B) := by
  have h1 := hx.1; have h2 := hx.2; have h3 := hy.1; have h4 := hy.2
  unfold bdL
  rw [toInt_add hx hy h]
  omega
theorem bdL_sub {x y : Int64} {A B : Nat} (hx : bdL x A) (hy : bdL y B) (h : A + B < 2 ^ 63) : bdL (x - y) (A + B) := by
  have h1 := hx.1; have h2 := hx.2; have h3 := hy.1; have h4 := hy.2
  unfold bdL
  rw [toInt_sub hx hy h]
  omega
theorem bdL_mul {x y : Int64} {A B : Nat} (hx : bdL x A) (hy : bdL y B) (h : A * B < 2 ^ 63) : bdL (x * y) (A * B) := by
  unfold bdL
  rw [toInt_mul hx hy h]
  exact mul_bd hx.1 hx.2 hy.1 hy.2
def bdI (x : Int32) (B : Nat) : Prop := -(B : Int) ≤ x.toInt ∧ x.toInt ≤ (B : Int)
theorem bdI_mono {x : Int32} {A B : Nat} (h : bdI x A) (hAB : A ≤ B) : bdI x B := ⟨by have := h.1; omega, by have := h.2; omega⟩
theorem bdL_i {x : Int32} {B : Nat} (h : bdI x B) : bdL x.toInt64 B := by unfold bdL; rw [Int32.toInt_toInt64]; exact h
theorem bmod_id32 {x : Int} (h1 : -(2147483648 : Int) ≤ x) (h2 : x < 2147483648) : x.bmod (2 ^ 32) = x := by
  have e : ((2 ^ 32 : Nat) : Int) = 4294967296 := by decide
  rw [Int.bmod_def, e]
  split <;> omega
theorem toI_sub {x y : Int32} {A B : Nat} (hx : bdI x A) (hy : bdI y B) (h : A + B < 2 ^ 31) : (x - y).toInt = x.toInt - y.toInt := by
  have h1 := hx.1; have h2 := hx.2; have h3 := hy.1; have h4 := hy.2
  rw [Int32.toInt_sub]
  exact bmod_id32 (by omega) (by omega)
theorem bdI_sub {x y : Int32} {A B : Nat} (hx : bdI x A) (hy : bdI y B) (h : A + B < 2 ^ 31) : bdI (x - y) (A + B) := by
  have h1 := hx.1; have h2 := hx.2; have h3 := hy.1; have h4 := hy.2
  unfold bdI
  rw [toI_sub hx hy h]
  omega
theorem l_sub {x y : Int32} {A B : Nat} (hx : bdI x A) (hy : bdI y B) (h : A + B < 2 ^ 31) : (x - y).toInt64 = x.toInt64 - y.toInt64 := by
  apply Int64.toInt_inj.mp
  rw [Int32.toInt_toInt64, toI_sub hx hy h, toInt_sub (bdL_i hx) (bdL_i hy) (by omega), Int32.toInt_toInt64, Int32.toInt_toInt64]
theorem bdI_n {n B : Nat} (h : n ≤ B) (hB : B < 2 ^ 31) : bdI (nI n) B := by
  unfold bdI
  rw [nI_toInt (by omega)]
  omega
/-! what is made is small -/
theorem sCut_bd (x : Int64) : bdI (sCut x) 99999 := by
  have k : ∀ y : Int64, (-99999 : Int) ≤ y.toInt → y.toInt ≤ 99999 → bdI y.toInt32 99999 := by
    intro y h1 h2
    unfold bdI
    rw [Int64.toInt_toInt32, bmod_id32 (by omega) (by omega)]
    exact ⟨h1, h2⟩
  have e1 : (99999 : Int64).toInt = 99999 := by decide
  have e2 : (-99999 : Int64).toInt = -99999 := by decide
  unfold sCut
  generalize hz : (if x < (99999 : Int64) then x else (99999 : Int64)) = z
  have hz2 : z.toInt ≤ 99999 := by
    rw [← hz]
    by_cases c : x < 99999
    · rw [if_pos c]
      have := Int64.lt_iff_toInt_lt.mp c
      omega
    · rw [if_neg c]; omega
  by_cases c : z < -99999
  · rw [if_pos c]
    exact k _ (by omega) (by omega)
  · rw [if_neg c]
    have := mt Int64.lt_iff_toInt_lt.mpr c
    exact k _ (by omega) hz2
theorem sMk_bd (V : Vw) (r u q : Nat) : bdI (sMk V r u q) 99999 := sCut_bd _
theorem sMkL_bd (V : Vw) (r u q : Nat) : bdL (sMk V r u q).toInt64 99999 := bdL_i (sMk_bd V r u q)
theorem bdL_n {n B : Nat} (h : n ≤ B) (hB : B < 2 ^ 31) : bdL (nI n).toInt64 B := bdL_i (bdI_n h hB)
theorem sAllO_bd (V : Vw) (r p q : Nat) : ∀ (k u A : Nat) (a : Int64), A + k * 115200000 ≤ 4000000000 → bdL a A → bdL (sAllO V r p q k u a) (A + k * 115200000) := by
  have key : ∀ u, bdL ((sMk V r (u ||| 2 ^ p) q - sMk V r u q).toInt64 * (nI (sOrd (sBits u))).toInt64 * (nI (sOrd (pN V - 1 - sBits u))).toInt64) 115200000 := fun u => bdL_mono (bdL_mul (bdL_mul (bdL_i (bdI_sub (sMk_bd V r _ q) (sMk_bd V r u q) (by decide))) (bdL_n (sOrd_pos _).2 (by decide)) (by decide)) (bdL_n (sOrd_pos _).2 (by decide)) (by decide)) (by decide)
  have ar : ∀ A z : Nat, A + (z + 115200000) ≤ 4000000000 → A + z ≤ 4000000000 ∧ A + 115200000 + z ≤ 4000000000 ∧ A + z ≤ A + (z + 115200000) ∧ A + 115200000 + z ≤ A + (z + 115200000) := by intro A z h; omega
  have ar2 : ∀ A z : Nat, A + (z + 115200000) ≤ 4000000000 → A + 115200000 < 2 ^ 63 := by intro A z h; omega
  intro k
  induction k with
  | zero => intro u A a _ h; exact bdL_mono h (Nat.le_add_right _ _)
  | succ k ih =>
    intro u A a hA h
    show bdL (sAllO V r p q k (u + 1) (if u / 2 ^ p % 2 = 1 then a else a + (sMk V r (u ||| 2 ^ p) q - sMk V r u q).toInt64 * (nI (sOrd (sBits u))).toInt64 * (nI (sOrd (pN V - 1 - sBits u))).toInt64)) _
    have e : (k + 1) * 115200000 = k * 115200000 + 115200000 := Nat.succ_mul k 115200000
    rw [e] at hA ⊢
    obtain ⟨a1, a2, a3, a4⟩ := ar _ _ hA
    by_cases c : u / 2 ^ p % 2 = 1
    · rw [if_pos c]
      exact bdL_mono (ih (u + 1) A a a1 h) a3
    · rw [if_neg c]
      exact bdL_mono (ih (u + 1) (A + 115200000) _ a2 (bdL_add h (key u) (ar2 _ _ hA))) a4
theorem sOnes_bd (V : Vw) (r q : Nat) : ∀ (k p A : Nat) (a : Int64), A + k * 99999 < 2 ^ 31 → bdL a A → bdL (sOnes V r q k p a) (A + k * 99999) := by
  intro k
  induction k with
  | zero => intro p A a _ h; exact bdL_mono h (by omega)
  | succ k ih =>
    intro p A a hA h
    show bdL (sOnes V r q k (p + 1) (a + (sMk V r (2 ^ p) q).toInt64)) _
    exact bdL_mono (ih (p + 1) (A + 99999) _ (by omega) (bdL_add h (sMkL_bd V r _ q) (by omega))) (by omega)
theorem bdL_0 (B : Nat) : bdL 0 B := by
  have e : (0 : Int64).toInt = 0 := by decide
  unfold bdL
  rw [e]
  omega
theorem sRest_bd {V : Vw} (hp : pN V ≤ 4) (r q : Nat) : bdL (sRest V r q) 600000 := by
  unfold sRest
  exact bdL_mono (bdL_sub (sMkL_bd V r _ q) (sOnes_bd V r q (pN V) 0 0 0 (by omega) (bdL_0 0)) (by omega)) (by omega)
theorem div24 : ∀ n, n ≤ 24 → bdL (24 / nI n).toInt64 24 := by
  intro n hn
  have : ∀ n, n ≤ 24 → (-24 : Int) ≤ (24 / nI n).toInt ∧ (24 / nI n).toInt ≤ 24 := by decide +kernel
  exact bdL_i (this n hn)
theorem bdL_24 : bdL 24 24 := by unfold bdL; decide
theorem sShB_bd {V : Vw} (hp : pN V ≤ 4) (r p q : Nat) : bdL (sShB V r p q) 1099511627776 := by
  have h16 := p2_le hp
  have kr := sRest_bd hp r q
  have km : ∀ u, bdL (24 * (sMk V r u q).toInt64) 2399976 := fun u => bdL_mono (bdL_mul bdL_24 (sMkL_bd V r u q) (by decide)) (by decide)
  have ka : bdL (sAllO V r p q (2 ^ pN V) 0 0) 1843200000 := bdL_mono (sAllO_bd V r p q (2 ^ pN V) 0 0 0 (by omega) (bdL_0 0)) (by omega)
  unfold sShB
  by_cases c0 : V 46 46 = 0
  · rw [if_pos c0]
    exact bdL_mono (bdL_mul ka (div24 _ (sOrd_pos _).2) (by decide)) (by decide)
  · rw [if_neg c0]
    by_cases c1 : V 46 46 = 1
    · rw [if_pos c1]
      exact bdL_mono (bdL_add (km _) (bdL_mul kr (div24 (pN V) (by omega)) (by decide)) (by decide)) (by decide)
    · rw [if_neg c1]
      by_cases c2 : nI p = V 46 47
      · rw [if_pos c2]
        exact bdL_mono (bdL_mul bdL_24 (bdL_add (sMkL_bd V r _ q) kr (by decide)) (by decide)) (by decide)
      · rw [if_neg c2]
        exact bdL_mono (km _) (by decide)
theorem tens_bd {V : Vw} (hW : WV V) : bdL (10 - V 46 45).toInt64 20 ∧ bdL (V 46 45).toInt64 10 := by
  obtain ⟨k, hk, e⟩ := hW.2.2.2.2.2.2.2.1
  rw [e]
  exact ⟨bdL_i (bdI_sub (x := 10) (A := 10) (by unfold bdI; decide) (bdI_n hk (by decide)) (by decide)), bdL_n hk (by decide)⟩
theorem sShI_bd {V : Vw} (hW : WV V) (c p q : Nat) : bdL (sShI V c p q) 35184372088832 := by
  obtain ⟨h1, h2⟩ := tens_bd hW
  unfold sShI
  exact bdL_mono (bdL_add (bdL_mul h1 (sShB_bd hW.1.2 c p q) (by decide)) (bdL_mul h2 (sShB_bd hW.1.2 (c + 3) p q) (by decide)) (by decide)) (by decide)
/-! lowest terms -/
def eu : Nat → Nat → Nat → Nat
  | 0, a, _ => a
  | n + 1, a, b => if b = 0 then a else eu n b (a % b)
def euT : Nat → Nat → Nat → Bool
  | 0, _, b => decide (b = 0)
  | n + 1, a, b => if b = 0 then true else euT n b (a % b)
theorem eu_240 : ∀ r, r < 240 → euT 20 240 r = true ∧ 0 < eu 20 240 r ∧ eu 20 240 r ≤ 240 := by decide +kernel
theorem lN_0 {n : Nat} (h : n < 2 ^ 63) : lN n = 0 ↔ n = 0 := pk_lEQ h (b := 0) (by decide)
theorem m_low_h (s : Sg) (y : Int64) (x4 : Int32) : ∀ (n m a b : Nat), euT n a b = true → a < 2 ^ 63 → b < 2 ^ 63 → n < m → f_Mo_lowest_h17 m y 240 x4 (lN a) (lN b) s = f_Mo_lowest_b42 y 240 x4 (lN (eu n a b)) s := by
  intro n
  induction n with
  | zero =>
    intro m a b ht ha hb hm
    obtain ⟨m, rfl⟩ : ∃ k, m = k + 1 := ⟨m - 1, by omega⟩
    have e : b = 0 := by simpa [euT] using ht
    subst e
    rfl
  | succ n ih =>
    intro m a b ht ha hb hm
    obtain ⟨m, rfl⟩ : ∃ k, m = k + 1 := ⟨m - 1, by omega⟩
    show f_Mo_lowest_b17 _ _ _ _ _ _ _ = _
    unfold f_Mo_lowest_b17
    by_cases c : b = 0
    · subst c
      rw [show eu (n + 1) a 0 = a from rfl]
      rfl
    · have h0 : ¬ lN b = 0 := fun h9 => c ((lN_0 hb).mp h9)
      rw [if_neg (fun h9 => h0 ((lg_cmp_eq _ _).mp h9)), f_ck_of h0, pk_lRem ha (by omega) hb]
      unfold euT at ht
      rw [if_neg c] at ht
      have hl : a % b < b := Nat.mod_lt _ (by omega)
      rw [ih m b (a % b) ht hb (by omega) (by omega)]
      show _ = f_Mo_lowest_b42 y 240 x4 (lN (if b = 0 then a else eu n b (a % b))) s
      rw [if_neg c]
def gcdL (y : Int64) : Nat := eu 21 y.toInt.natAbs 240
def aLow (y : Int64) (x : Int32) : Int64 := if x = 0 then y / lN (gcdL y) else 240 / lN (gcdL y)
theorem eu_s (n a b : Nat) : eu (n + 1) a b = if b = 0 then a else eu n b (a % b) := rfl
theorem euT_s (n a b : Nat) : euT (n + 1) a b = if b = 0 then true else euT n b (a % b) := rfl
theorem gcdL_of {a : Nat} : euT 21 a 240 = true ∧ 0 < eu 21 a 240 ∧ eu 21 a 240 ≤ 240 := by
  rw [euT_s 20, eu_s 20, if_neg (by decide), if_neg (by decide)]
  exact eu_240 (a % 240) (Nat.mod_lt _ (by decide))
theorem abs_of {y : Int64} {B : Nat} (h : bdL y B) (hB : B < 2 ^ 63) : (if (0 : Int32) ≤ lg_cmp y 0 then y else -y) = lN y.toInt.natAbs := by
  have h1 := h.1
  have h2 := h.2
  have e0 : (0 : Int64).toInt = 0 := by decide
  by_cases c : (0 : Int32) ≤ lg_cmp y 0
  · rw [if_pos c]
    have c2 := Int64.le_iff_toInt_le.mp ((lg_cmp_ge _ _).mp c)
    rw [e0] at c2
    apply Int64.toInt_inj.mp
    rw [pk_lT (by omega)]
    omega
  · rw [if_neg c]
    have c2 : ¬ (0 : Int) ≤ y.toInt := fun h9 => c ((lg_cmp_ge _ _).mpr (Int64.le_iff_toInt_le.mpr (by rw [e0]; exact h9)))
    apply Int64.toInt_inj.mp
    rw [pk_lT (by omega), Int64.toInt_neg, bmod_id (by omega) (by omega)]
    omega
theorem m_lowest (s : Sg) {y : Int64} (h : bdL y 35184372088832) (x : Int32) : f_Mo_lowest y 240 x s = some (aLow y x, s) := by
  have hab := abs_of h (by decide)
  have hb12 : ∀ z : Int64, z = lN y.toInt.natAbs → f_Mo_lowest_b12 y 240 x z s = some (aLow y x, s) := by
    intro z hz
    have hg := @gcdL_of y.toInt.natAbs
    have h1 := h.1
    have h2 := h.2
    unfold f_Mo_lowest_b12
    rw [hz]
    have e := m_low_h s y x 21 zl_fl y.toInt.natAbs 240 hg.1 (by omega) (by decide) (zl_fl_lt (by decide))
    refine Eq.trans e ?_
    unfold f_Mo_lowest_b42 aLow gcdL
    have h0 : ¬ lN (eu 21 y.toInt.natAbs 240) = 0 := fun h9 => by
      have := (lN_0 (by omega)).mp h9
      omega
    rw [f_ck_of h0, f_ck_of h0]
    by_cases c : x = 0
    · rw [if_pos c, if_pos c]
    · rw [if_neg c, if_neg c]
  unfold f_Mo_lowest
  by_cases c : (0 : Int32) ≤ lg_cmp y 0
  · rw [if_pos c] at hab ⊢
    exact hb12 _ hab
  · rw [if_neg c] at hab ⊢
    exact hb12 _ hab
def bShare (V : Vw) (x1 x2 x3 : Int32) : Bool := xb x1 (pN V) && (xpa V x2 && wi x3 0 1)
def aShare (V : Vw) (x1 x2 x3 : Int32) : Int64 := aLow (sShI (askW V) 0 x1.toNatClampNeg x2.toNatClampNeg) x3
def gL (b : Bool) (x : Int64) : Int64 := if b = true then x else 0
variable {V : Vw} {s : Sg}
theorem m_shareQ (h : RM V s) (x1 x2 x3 : Int32) : QM V s (f_Mo_share x1 x2 x3 s) (gL (bShare V x1 x2 x3) (aShare V x1 x2 x3)) (tB (bShare V x1 x2 x3)) := by
  have hp4 := h.p4
  have hn : QM V s (f_Mo_share_b31 x1 x2 x3 1 s) (0 : Int64) 1 := by
    obtain ⟨s1, V1, e1, h1, f1, t1, w1, q1, M1⟩ := m_asT h 1
    unfold f_Mo_share_b31
    simp only [f_ck_of h.b, f_bd_of e1, f_ck_of h1.b, t1]
    rw [if_pos trivial]
    exact QM.mk rfl h1 f1 w1 t1
  unfold f_Mo_share f_Mo_share_b30 bShare aShare
  simp only [f_ck_of h.b, f_bd_of (m_isPerson h x1), ite10, f_bd_of (m_isPains h x2), f_bd_of (m_wi x3 0 1)]
  by_cases c : xb x1 (pN V) = true
  · rw [if_pos c]
    by_cases c2 : xpa V x2 = true
    · rw [if_pos c2]
      by_cases c3 : wi x3 0 1 = true
      · rw [if_pos c3, c, c2, c3]
        show QM V s _ (aLow (sShI (askW V) 0 _ _) x3) 0
        obtain ⟨p, hp, rfl⟩ := xb_t c (by omega)
        obtain ⟨q, hq, rfl, -⟩ := xpa_t h.w c2
        obtain ⟨s1, V1, e1, h1, f1, t1, w1, q1, M1⟩ := m_asT h 0
        unfold f_Mo_share_b31
        simp only [f_ck_of h.b, f_bd_of e1, f_ck_of h1.b, t1]
        rw [if_neg (by decide), nI_clamp (by omega), nI_clamp (by omega), ← cg_sShI q1.1 q1.2.1 q1.2.2.1]
        exact QM.mk (rn_bd (m_share0 h1 (p := p) (q := q) (by rw [eqW_pN w1]; exact hp) hq M1.1 M1.2.1) (rn_bd (m_lowest s1 (sShI_bd h1.w 0 p q) x3) rfl)) h1 f1 w1 t1
      · rw [if_neg c3]
        have e : (xb x1 (pN V) && (xpa V x2 && wi x3 0 1)) = false := by simp [c3]
        rw [e]; exact hn
    · rw [if_neg c2]
      have e : (xb x1 (pN V) && (xpa V x2 && wi x3 0 1)) = false := by simp [c2]
      rw [e]; exact hn
  · rw [if_neg c]
    have e : (xb x1 (pN V) && (xpa V x2 && wi x3 0 1)) = false := by simp [c]
    rw [e]; exact hn
end
