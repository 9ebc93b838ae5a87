/-! plain ownings' numbers: the model -/
section
def sDigL (b : Nat) : Nat → Nat → Nat
  | 0, x => x % b
  | k + 1, x => sDigL b k (x / b)
/-- the digit of the thing t in the number x -/
def sDig (V : Vw) (x t : Nat) : Nat := sDigL (pN V + 2) t x
def sPow (b : Nat) : Nat → Nat → Nat
  | 0, a => a
  | k + 1, a => sPow b k (a * b)
def sOws (V : Vw) : Nat := if pN V = 0 then 0 else sPow (pN V + 2) (tN V) 1
theorem sDigL_lt {b : Nat} (hb : 0 < b) : ∀ k x, sDigL b k x < b := by
  intro k
  induction k with
  | zero => intro x; exact Nat.mod_lt _ hb
  | succ k ih => intro x; exact ih _
theorem sPow_le {b : Nat} (hb : b ≤ 6) : ∀ k a, k ≤ 3 → sPow b k a ≤ a * 6 ^ k := by
  intro k
  induction k with
  | zero => intro a _; exact Nat.le_of_eq (by simp [sPow])
  | succ k ih =>
    intro a hk
    refine Nat.le_trans (ih (a * b) (by omega)) ?_
    rw [Nat.pow_succ, Nat.mul_assoc, Nat.mul_comm (6 ^ k) 6]
    exact Nat.mul_le_mul_left a (Nat.mul_le_mul_right _ hb)
theorem sOws_le {V : Vw} (hW : WV V) : sOws V ≤ 216 := by
  unfold sOws
  split
  · omega
  · refine Nat.le_trans (sPow_le (by have := hW.1.2; omega) (tN V) 1 hW.2.1.2) ?_
    have h3 : tN V = 0 ∨ tN V = 1 ∨ tN V = 2 ∨ tN V = 3 := by have := hW.2.1.2; omega
    rcases h3 with e | e | e | e <;> rw [e] <;> decide
variable {V : Vw} {s : Sg}
theorem m_p2 (h : RM V s) : mI s 46 10 + 2 = nI (pN V + 2) := by rw [h.pe, show (2 : Int32) = nI 2 from rfl, nI_add]
theorem m_digit_h (h : RM V s) {t : Nat} (ht : t < 2 ^ 31) : ∀ (k j n x : Nat), j + k = t → x < 2 ^ 31 → k < n → f_Mo_digit_h5 n (nI t) (nI x) (nI j) s = some (nI (sDigL (pN V + 2) k x), s) := by
  have hp4 := h.p4
  have hne : ¬ nI (pN V + 2) = 0 := nI_ne0 (by omega) (by omega)
  intro k
  induction k with
  | zero =>
    intro j n x hj hx hn
    obtain ⟨n, rfl⟩ : ∃ m, n = m + 1 := ⟨n - 1, by omega⟩
    show f_Mo_digit_b5 _ _ _ _ _ = _
    unfold f_Mo_digit_b5
    rw [if_pos (nI_le (by omega) (by omega))]
    unfold f_Mo_digit_b26
    rw [f_ck_of h.b, m_p2 h, f_ck_of hne, pk_rem hx (by omega) (by omega)]
    rfl
  | succ k ih =>
    intro j n x hj hx hn
    obtain ⟨n, rfl⟩ : ∃ m, n = m + 1 := ⟨n - 1, by omega⟩
    show f_Mo_digit_b5 _ _ _ _ _ = _
    unfold f_Mo_digit_b5
    rw [if_neg (nI_ge (by omega) (by omega)), f_ck_of h.b, m_p2 h, f_ck_of hne, pk_div hx (by omega) (by omega), nI_1]
    exact ih (j + 1) n _ (by omega) (Nat.lt_of_le_of_lt (Nat.div_le_self _ _) hx) (by omega)
theorem m_digit (h : RM V s) {x t : Nat} (hx : x < 2 ^ 31) (ht : t < 4000) : f_Mo_digit (nI x) (nI t) s = some (nI (sDig V x t), s) := by
  unfold f_Mo_digit
  exact m_digit_h h (by omega) t 0 zl_fl x (by omega) hx (zl_fl_lt (by omega))
theorem m_owningsOf_h (h : RM V s) : ∀ (k t n a : Nat), t + k = tN V → k < n → f_Mo_owningsOf_h4 n (nI a) (nI t) s = some (if pN V = 0 then 0 else nI (sPow (pN V + 2) k a), s) := by
  have hp4 := h.p4
  have ht3 := h.t3
  intro k
  induction k with
  | zero =>
    intro t n a ht hn
    obtain ⟨n, rfl⟩ : ∃ m, n = m + 1 := ⟨n - 1, by omega⟩
    show f_Mo_owningsOf_b4 _ _ _ _ = _
    unfold f_Mo_owningsOf_b4
    rw [f_ck_of h.b, h.th, if_pos (nI_le (by omega) (by omega))]
    unfold f_Mo_owningsOf_b27
    rw [f_ck_of h.b, h.pe]
    by_cases c : pN V = 0
    · rw [c, if_pos (show nI 0 = 0 from rfl), if_pos rfl]
    · rw [if_neg (nI_ne0 (by omega) (by omega)), if_neg c]; rfl
  | succ k ih =>
    intro t n a ht hn
    obtain ⟨n, rfl⟩ : ∃ m, n = m + 1 := ⟨n - 1, by omega⟩
    show f_Mo_owningsOf_b4 _ _ _ _ = _
    unfold f_Mo_owningsOf_b4
    rw [f_ck_of h.b, h.th, if_neg (nI_ge (by omega) (by omega)), m_p2 h, nI_mul, nI_1]
    exact ih (t + 1) n _ (by omega) (by omega)
theorem m_owningsOf (h : RM V s) : f_Mo_owningsOf s = some (nI (sOws V), s) := by
  have ht3 := h.t3
  unfold f_Mo_owningsOf sOws
  refine (m_owningsOf_h h (tN V) 0 zl_fl 1 (by omega) (zl_fl_lt (by omega))).trans ?_
  split <;> rfl
end
