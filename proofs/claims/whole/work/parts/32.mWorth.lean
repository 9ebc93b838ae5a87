/-! the model's worths and possessions -/
section
theorem nI_mul (a b : Nat) : nI a * nI b = nI (a * b) := by
  apply Int32.toBitVec_inj.mp
  rw [Int32.toBitVec_mul]
  show BitVec.ofNat 32 a * BitVec.ofNat 32 b = BitVec.ofNat 32 (a * b)
  rw [BitVec.ofNat_mul]
theorem nI_and (a b : Nat) : nI a &&& nI b = nI (a &&& b) := by
  apply Int32.toBitVec_inj.mp
  rw [Int32.toBitVec_and]
  show BitVec.ofNat 32 a &&& BitVec.ofNat 32 b = BitVec.ofNat 32 (a &&& b)
  rw [BitVec.ofNat_and]
theorem nI_or (a b : Nat) : nI a ||| nI b = nI (a ||| b) := by
  apply Int32.toBitVec_inj.mp
  rw [Int32.toBitVec_or]
  show BitVec.ofNat 32 a ||| BitVec.ofNat 32 b = BitVec.ofNat 32 (a ||| b)
  rw [BitVec.ofNat_or]
theorem nI_neq {a b : Nat} (ha : a < 2 ^ 31) (hb : b < 2 ^ 31) (h : ¬ a = b) : ¬ nI a = nI b := fun h9 => h ((nI_eq ha hb).mp h9)
def sBits (n : Nat) : Nat := n % 2 + n / 2 % 2 + n / 4 % 2 + n / 8 % 2 + n / 16 % 2 + n / 32 % 2 + n / 64 % 2 + n / 128 % 2
theorem bit_at {n k : Nat} (hn : n < 2 ^ 31) (hk : k < 8) : (nI n >>> (nI k &&& 31)) &&& 1 = nI (n / 2 ^ k % 2) := by
  have hd : n / 2 ^ k < 2 ^ 32 := Nat.lt_of_le_of_lt (Nat.div_le_self _ _) (by omega)
  have h8 : k = 0 ∨ k = 1 ∨ k = 2 ∨ k = 3 ∨ k = 4 ∨ k = 5 ∨ k = 6 ∨ k = 7 := by omega
  rw [pk_shrN hn (nI k &&& 31) k (by rcases h8 with rfl | rfl | rfl | rfl | rfl | rfl | rfl | rfl <;> decide)]
  exact pk_andN hd 1 (by decide)
variable {V : Vw} {s : Sg}
theorem m_bits {n : Nat} (hn : n < 256) : f_Mo_bits (nI n) s = some (nI (sBits n), s) := by
  have hs : ∀ (m : Nat) (a : Int32) (k : Nat), k < 8 → f_Mo_bits_h4 (m + 1) (nI n) a (nI k) s = f_Mo_bits_h4 m (nI n) (a + nI (n / 2 ^ k % 2)) (nI (k + 1)) s := by
    intro m a k hk
    show f_Mo_bits_b4 _ _ _ _ _ = _
    unfold f_Mo_bits_b4
    rw [if_neg (show ¬ (8 : Int32) ≤ nI k from nI_ge hk (by decide)), bit_at (by omega) hk, nI_1]
  have h8 : ∀ (m : Nat) (a : Int32), f_Mo_bits_h4 (m + 1) (nI n) a (nI 8) s = some (a, s) := fun m a => rfl
  unfold f_Mo_bits
  show f_Mo_bits_h4 (4087 + 1 + 1 + 1 + 1 + 1 + 1 + 1 + 1 + 1) (nI n) 0 (nI 0) s = _
  rw [hs _ _ 0 (by decide), hs _ _ 1 (by decide), hs _ _ 2 (by decide), hs _ _ 3 (by decide), hs _ _ 4 (by decide), hs _ _ 5 (by decide), hs _ _ 6 (by decide), hs _ _ 7 (by decide), h8]
  show some ((nI 0 + _ + _ + _ + _ + _ + _ + _ + _), s) = _
  simp only [nI_add]
  unfold sBits
  simp only [Nat.zero_add, Nat.pow_zero, Nat.div_one]
/-- a line's value by the row of steps q, at these tenths -/
def sVal (V : Vw) (q l : Nat) : Int64 := if V 46 39 = 10 then (V 68 (256 * l + q)).toInt64 else if nI l = V 46 38 then (V 68 (256 * l + q)).toInt64 * (V 46 39).toInt64 / 10 else (V 68 (256 * l + q)).toInt64
def sIn (V : Vw) (x1 x2 : Int32) (l : Nat) : Bool := decide ((V 51 l &&& (x1 ^^^ (-1))) = 0) && decide ((V 52 l &&& (x2 ^^^ (-1))) = 0)
def sSum (V : Vw) (x1 x2 : Int32) (q : Nat) : Nat → Nat → Int64 → Int64
  | 0, _, a => a
  | k + 1, l, a => sSum V x1 x2 q k (l + 1) (if sIn V x1 x2 l = true then a + sVal V q l else a)
def sCut (x : Int64) : Int32 := Int64.toInt32 (if (if x < (99999 : Int64) then x else (99999 : Int64)) < ((-99999) : Int64) then ((-99999) : Int64) else (if x < (99999 : Int64) then x else (99999 : Int64)))
def sWo (V : Vw) (x1 x2 : Int32) (q : Nat) : Int32 := sCut (sSum V x1 x2 q (kN V) 0 0)
theorem m_worthOf_h (h : RM V s) {q : Nat} (hq : q < 256) (x1 x2 : Int32) : ∀ (k l n : Nat) (a : Int64), l + k = kN V → k < n → f_Mo_worthOf_h6 n x1 x2 (nI q) a (nI l) s = some (sCut (sSum V x1 x2 q k l a), s) := by
  have hk8 := h.k8
  intro k
  induction k with
  | zero =>
    intro l n a hl hn
    obtain ⟨n, rfl⟩ : ∃ m, n = m + 1 := ⟨n - 1, by omega⟩
    show f_Mo_worthOf_b6 _ _ _ _ _ _ _ = _
    unfold f_Mo_worthOf_b6
    refine rn_ck h.b (rn_T ?_ rfl)
    rw [h.li]; exact nI_le (by omega) (by omega)
  | succ k ih =>
    intro l n a hl hn
    obtain ⟨n, rfl⟩ : ∃ m, n = m + 1 := ⟨n - 1, by omega⟩
    have i16 : vp_in (nI l) 16 := vp_in_nI (by omega) (by decide)
    have e68 : (256 : Int32) * nI l + nI q = nI (256 * l + q) := by rw [show (256 : Int32) = nI 256 from rfl, nI_mul, nI_add]
    have r68 : mI s 68 (256 * l + q) = V 68 (256 * l + q) := h.ar 68 rfl
    have r39 : mI s 46 39 = V 46 39 := h.e 46 39 rfl
    have r38 : mI s 46 38 = V 46 38 := h.e 46 38 rfl
    show f_Mo_worthOf_b6 _ _ _ _ _ _ _ = _
    unfold f_Mo_worthOf_b6
    refine rn_ck h.b (rn_F ?_ (rn_ck i16 ?_))
    · rw [h.li]; exact nI_ge (by omega) (by omega)
    rw [nI_clamp (by omega), h.lp (by omega), h.lt (by omega), e68, nI_clamp (by omega), r68, r39, r38, f_ck_of i16, f_ck_of (vp_in_nI (by omega) (by decide) : vp_in (nI (256 * l + q)) 2048)]
    unfold f_Mo_worthOf_b97 f_Mo_worthOf_b99 f_Mo_worthOf_b102
    simp only [nI_1]
    have hi : ∀ a, f_Mo_worthOf_h6 n x1 x2 (nI q) a (nI (l + 1)) s = _ := fun a => ih (l + 1) n a (by omega) (by omega)
    simp only [hi]
    show _ = some (sCut (sSum V x1 x2 q k (l + 1) (if sIn V x1 x2 l = true then a + sVal V q l else a)), s)
    by_cases c1 : (V 51 l &&& (x1 ^^^ (-1))) = 0
    · by_cases c2 : (V 52 l &&& (x2 ^^^ (-1))) = 0
      · have eS : sIn V x1 x2 l = true := by unfold sIn; rw [decide_eq_true c1, decide_eq_true c2]; rfl
        rw [eS, if_pos rfl, if_pos c1, if_pos c2]
        unfold sVal
        by_cases c3 : V 46 39 = 10
        · rw [if_pos c3, if_pos c3]
        · by_cases c4 : nI l = V 46 38
          · rw [if_neg c3, if_pos c4, if_neg c3, if_pos c4]
          · rw [if_neg c3, if_neg c4, if_neg c3, if_neg c4]
      · have eS : sIn V x1 x2 l = false := by unfold sIn; rw [decide_eq_false c2, Bool.and_false]
        rw [eS, if_neg Bool.false_ne_true, if_pos c1, if_neg c2]
    · have eS : sIn V x1 x2 l = false := by unfold sIn; rw [decide_eq_false c1, Bool.false_and]
      rw [eS, if_neg Bool.false_ne_true, if_neg c1]
theorem m_worthOf (h : RM V s) {q : Nat} (hq : q < 256) (x1 x2 : Int32) : f_Mo_worthOf x1 x2 (nI q) s = some (sWo V x1 x2 q, s) := by
  unfold f_Mo_worthOf
  have hk8 := h.k8
  exact m_worthOf_h h hq x1 x2 (kN V) 0 zl_fl 0 (by omega) (zl_fl_lt (by omega))
end
