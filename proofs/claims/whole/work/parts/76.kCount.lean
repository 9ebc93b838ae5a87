/-! count: the class -/
section
def s4 (a b c d p : Nat) : Nat := if p = 0 then a else if p = 1 then b else if p = 2 then c else d
def vq (a b c d pn q : Nat) : Bool := decide (q < 4 ^ pn) && sAll (fun p => decide (sStep q p ≤ s4 a b c d p)) pn 0
def cq (a b c d pn : Nat) : Nat → Nat → Nat → Nat
  | 0, _, n => n
  | k + 1, q, n => cq a b c d pn k (q + 1) (if vq a b c d pn q = true then n + 1 else n)
theorem cq_1 : ∀ a, a < 3 → cq (a + 1) 0 0 0 1 4 0 0 = a + 2 := by decide +kernel
theorem cq_2 : ∀ a, a < 3 → ∀ b, b < 3 → cq (a + 1) (b + 1) 0 0 2 16 0 0 = (a + 2) * (b + 2) := by decide +kernel
theorem cq_3 : ∀ a, a < 3 → ∀ b, b < 3 → ∀ c, c < 3 → cq (a + 1) (b + 1) (c + 1) 0 3 64 0 0 = (a + 2) * (b + 2) * (c + 2) := by decide +kernel
theorem cq_4 : ∀ a, a < 3 → ∀ b, b < 3 → ∀ c, c < 3 → ∀ d, d < 3 → cq (a + 1) (b + 1) (c + 1) (d + 1) 4 256 0 0 = (a + 2) * (b + 2) * (c + 2) * (d + 2) := by decide +kernel
def sRow (V : Vw) : Nat → Nat → Nat → Nat
  | 0, _, a => a
  | k + 1, p, a => sRow V k (p + 1) (a * (sN V p + 1))
theorem cnL_cq {V : Vw} {a b c d : Nat} (h : ∀ p, p < pN V → sN V p = s4 a b c d p) : ∀ (k q n : Nat), cnL V k q n = cq a b c d (pN V) k q n := by
  have hv : ∀ q, vpa V q = vq a b c d (pN V) q := by
    intro q
    unfold vpa vq
    congr 1
    rw [Bool.eq_iff_iff, sAll_iff, sAll_iff]
    constructor
    · intro h9 p h1 h2
      have := h9 p h1 h2
      rw [h p (by omega)] at this
      exact this
    · intro h9 p h1 h2
      have := h9 p h1 h2
      rw [← h p (by omega)] at this
      exact this
  intro k
  induction k with
  | zero => intro q n; rfl
  | succ k ih =>
    intro q n
    show cnL V k (q + 1) (if vpa V q = true then n + 1 else n) = cq a b c d (pN V) k (q + 1) (if vq a b c d (pN V) q = true then n + 1 else n)
    rw [hv, ih]
theorem rows_eq {V : Vw} (hW : WV V) (h0 : 0 < pN V) : cnL V (4 ^ pN V) 0 0 = sRow V (pN V) 0 1 := by
  have hp4 := hW.1.2
  have hs : ∀ p, p < pN V → ∃ j, j < 3 ∧ sN V p = j + 1 := fun p hp => ⟨sN V p - 1, by have := (hW.2.2.2.1 p hp).2.1; have := (hW.2.2.2.1 p hp).2.2; omega, by have := (hW.2.2.2.1 p hp).2.1; omega⟩
  have h4 : pN V = 1 ∨ pN V = 2 ∨ pN V = 3 ∨ pN V = 4 := by omega
  rcases h4 with e | e | e | e
  · obtain ⟨a, ha, ea⟩ := hs 0 (by omega)
    rw [cnL_cq (a := a + 1) (b := 0) (c := 0) (d := 0) (fun p hp => by
      obtain rfl : p = 0 := by omega
      exact ea), e]
    rw [show (4 : Nat) ^ 1 = 4 from rfl, cq_1 a ha]
    show a + 2 = 1 * (sN V 0 + 1)
    rw [ea]; omega
  · obtain ⟨a, ha, ea⟩ := hs 0 (by omega)
    obtain ⟨b, hb, eb⟩ := hs 1 (by omega)
    rw [cnL_cq (a := a + 1) (b := b + 1) (c := 0) (d := 0) (fun p hp => by
      have : p = 0 ∨ p = 1 := by omega
      rcases this with rfl | rfl
      · exact ea
      · exact eb), e]
    rw [show (4 : Nat) ^ 2 = 16 from rfl, cq_2 a ha b hb]
    show (a + 2) * (b + 2) = 1 * (sN V 0 + 1) * (sN V 1 + 1)
    rw [ea, eb, Nat.one_mul]
  · obtain ⟨a, ha, ea⟩ := hs 0 (by omega)
    obtain ⟨b, hb, eb⟩ := hs 1 (by omega)
    obtain ⟨c, hc, ec⟩ := hs 2 (by omega)
    rw [cnL_cq (a := a + 1) (b := b + 1) (c := c + 1) (d := 0) (fun p hp => by
      have : p = 0 ∨ p = 1 ∨ p = 2 := by omega
      rcases this with rfl | rfl | rfl
      · exact ea
      · exact eb
      · exact ec), e]
    rw [show (4 : Nat) ^ 3 = 64 from rfl, cq_3 a ha b hb c hc]
    show (a + 2) * (b + 2) * (c + 2) = 1 * (sN V 0 + 1) * (sN V 1 + 1) * (sN V 2 + 1)
    rw [ea, eb, ec, Nat.one_mul]
  · obtain ⟨a, ha, ea⟩ := hs 0 (by omega)
    obtain ⟨b, hb, eb⟩ := hs 1 (by omega)
    obtain ⟨c, hc, ec⟩ := hs 2 (by omega)
    obtain ⟨d, hd, ed⟩ := hs 3 (by omega)
    rw [cnL_cq (a := a + 1) (b := b + 1) (c := c + 1) (d := d + 1) (fun p hp => by
      have : p = 0 ∨ p = 1 ∨ p = 2 ∨ p = 3 := by omega
      rcases this with rfl | rfl | rfl | rfl
      · exact ea
      · exact eb
      · exact ec
      · exact ed), e]
    rw [show (4 : Nat) ^ 4 = 256 from rfl, cq_4 a ha b hb c hc d hd]
    show (a + 2) * (b + 2) * (c + 2) * (d + 2) = 1 * (sN V 0 + 1) * (sN V 1 + 1) * (sN V 2 + 1) * (sN V 3 + 1)
    rw [ea, eb, ec, ed, Nat.one_mul]
variable {V : Vw} {s : Sg}
theorem sRow_0 (V : Vw) : ∀ k p, sRow V k p 0 = 0 := by
  intro k
  induction k with
  | zero => intro p; rfl
  | succ k ih => intro p; show sRow V k (p + 1) (0 * (sN V p + 1)) = 0; rw [Nat.zero_mul]; exact ih _
theorem k_row_h (h : KT (askW V) s) : ∀ (k p n a : Nat), p + k = pN (askW V) → k < n → f_Wk_rowCount_h15 n (nI a) (nI p) s = some (nI (sRow V k p a), s) := by
  have hp4 := h.1.p4
  intro k
  induction k with
  | zero =>
    intro p n a hp hn
    obtain ⟨n, rfl⟩ : ∃ m, n = m + 1 := ⟨n - 1, by omega⟩
    show f_Wk_rowCount_b15 _ _ _ _ = _
    unfold f_Wk_rowCount_b15
    rw [f_ck_of h.1.b, h.1.pe, if_pos (nI_le (by omega) (by omega))]
    rfl
  | succ k ih =>
    intro p n a hp hn
    obtain ⟨n, rfl⟩ : ∃ m, n = m + 1 := ⟨n - 1, by omega⟩
    show f_Wk_rowCount_b15 _ _ _ _ = _
    unfold f_Wk_rowCount_b15
    rw [f_ck_of h.1.b, h.1.pe, if_neg (nI_ge (by omega) (by omega)), f_ck_of (vp_in_nI (by omega) (by decide)), nI_clamp (by omega), h.1.st (by omega), nI_1, nI_mul, nI_1, ak_s]
    exact ih (p + 1) n _ (by omega) (by omega)
theorem k_rowCount (h : KT (askW V) s) : f_Wk_rowCount s = some (nI (if bP V = true then cnL V (4 ^ pN V) 0 0 else 0), s) := by
  have hW := askWV h
  have hp4 := h.1.p4
  unfold f_Wk_rowCount f_Wk_rowCount_b12
  simp only [f_ck_of h.1.b, f_bd_of (k_isNobody h.1), ite01, ak_b]
  have e := fun a => k_row_h h (pN (askW V)) 0 zl_fl a (by omega) (zl_fl_lt (by omega))
  by_cases c : bP V = true
  · have hpos : 0 < pN V := by unfold bP at c; simpa using c
    rw [if_pos c, if_pos c, rows_eq hW hpos]
    have := e 1
    rw [ak_p] at this
    exact this
  · rw [if_neg c, if_neg c]
    have := e 0
    rw [sRow_0] at this
    exact this
theorem kq_count (h : KT (askW V) s) (hp : PL V s) (hT : mI s 42 2 = V 46 1) (x : Int32) : QK V s (f_Wk_count x s) (aCount V x) := by
  have ht := TV_ask.mp h.1.2.2.1
  have e0 : mI s 7 0 = V 46 10 := ht.1.1
  have e1 : mI s 7 1 = V 46 11 := ht.1.2.1
  have e2 : mI s 7 2 = V 46 12 := ht.1.2.2.1
  unfold f_Wk_count aCount nB
  simp only [f_ck_of h.1.b, f_bd_of (k_plainCount h.1), f_bd_of (k_rowCount h), e0, e1, e2, hT]
  by_cases c0 : x = 0
  · rw [c0, if_pos rfl, if_pos (show wi 0 0 5 = true by decide), if_pos rfl]; exact QK.mk hp rfl h (K0.rf s)
  · rw [if_neg c0]
    by_cases c1 : x = 1
    · rw [c1, if_pos rfl, if_pos (show wi 1 0 5 = true by decide), if_neg (by decide), if_pos rfl]; exact QK.mk hp rfl h (K0.rf s)
    · rw [if_neg c1]
      by_cases c2 : x = 2
      · rw [c2, if_pos rfl, if_pos (show wi 2 0 5 = true by decide), if_neg (by decide), if_neg (by decide), if_pos rfl]; exact QK.mk hp rfl h (K0.rf s)
      · rw [if_neg c2]
        by_cases c3 : x = 3
        · rw [c3, if_pos rfl, if_pos (show wi 3 0 5 = true by decide), if_neg (by decide), if_neg (by decide), if_neg (by decide), if_pos rfl]; exact QK.mk hp rfl h (K0.rf s)
        · rw [if_neg c3]
          by_cases c4 : x = 4
          · rw [c4, if_pos rfl, if_pos (show wi 4 0 5 = true by decide), if_neg (show ¬ (4 : Int32) = 0 by decide), if_neg (show ¬ (4 : Int32) = 1 by decide), if_neg (show ¬ (4 : Int32) = 2 by decide), if_neg (show ¬ (4 : Int32) = 3 by decide), if_pos (show (4 : Int32) = 4 from rfl)]; exact QK.mk hp rfl h (K0.rf s)
          · rw [if_neg c4]
            by_cases c5 : x = 5
            · rw [c5, if_pos rfl, if_pos (show wi 5 0 5 = true by decide), if_neg (show ¬ (5 : Int32) = 0 by decide), if_neg (show ¬ (5 : Int32) = 1 by decide), if_neg (show ¬ (5 : Int32) = 2 by decide), if_neg (show ¬ (5 : Int32) = 3 by decide), if_neg (show ¬ (5 : Int32) = 4 by decide)]; exact QK.mk hp rfl h (K0.rf s)
            · have hw : ¬ wi x 0 5 = true := by
                intro h9
                obtain ⟨k, hk, rfl⟩ := wi_t (m := 5) h9 (by decide)
                have : k = 0 ∨ k = 1 ∨ k = 2 ∨ k = 3 ∨ k = 4 ∨ k = 5 := by omega
                rcases this with rfl | rfl | rfl | rfl | rfl | rfl
                · exact c0 rfl
                · exact c1 rfl
                · exact c2 rfl
                · exact c3 rfl
                · exact c4 rfl
                · exact c5 rfl
              rw [if_neg c5, if_neg hw]
              exact QK.mk hp rfl h (K0.rf s)
end
