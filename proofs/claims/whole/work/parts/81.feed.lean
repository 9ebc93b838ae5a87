/-! feed -/
section
/-- the byte j of a word, the highest first -/
def bY (w : Int64) (j : Nat) : Int32 := Int64.toInt32 ((w >>> (Int32.toInt64 (nI (56 - 8 * j)) &&& 63)) &&& 255)
def okS (c : Int32) : Bool := decide (c = 10) || (!decide (c < 32) && !decide (126 < c))
def fd1 (V : Vw) (c : Int32) : Vw := if 1000 ≤ V 46 1 then V else if okS c = true then vU (vU V 47 (V 46 1).toNatClampNeg c) 46 1 (V 46 1 + 1) else V
def fdK (w : Int64) : Nat → Nat → Vw → Vw
  | 0, _, V => V
  | k + 1, j, V => fdK w k (j + 1) (fd1 V (bY w j))
theorem byte_eq (w : Int64) : ∀ j, j < 8 → ∀ a, a < 3 → Int64.toInt32 (((Int64.toUInt64 w >>> ((Int32.toInt64 (56 - (8 * (nI (8 * a + j) &&& 7)))).toUInt64 &&& Int64.toUInt64 63)).toInt64) &&& 255) = bY w j := by
  have key : ∀ n : Nat, n ≤ 56 → ((w.toBitVec >>> n) &&& 255#64) = ((w.toBitVec.sshiftRight n) &&& 255#64) := by
    intro n hn
    apply BitVec.eq_of_getLsbD_eq
    intro i hi
    rw [BitVec.getLsbD_and, BitVec.getLsbD_and, BitVec.getLsbD_ushiftRight, BitVec.getLsbD_sshiftRight]
    by_cases c : i < 8
    · have h1 : n + i < 64 := by omega
      have h3 : ¬ 64 ≤ i := by omega
      simp [h1, hi, h3]
    · have h2 : (255#64).getLsbD i = false := by
        have : ∀ k, k < 64 → ¬ k < 8 → (255#64).getLsbD k = false := by decide
        exact this i hi c
      rw [h2, Bool.and_false, Bool.and_false]
  intro j hj a ha
  have h9 : j = 0 ∨ j = 1 ∨ j = 2 ∨ j = 3 ∨ j = 4 ∨ j = 5 ∨ j = 6 ∨ j = 7 := by omega
  have h8 : a = 0 ∨ a = 1 ∨ a = 2 := by omega
  unfold bY
  congr 1
  apply Int64.toBitVec_inj.mp
  have e7 : nI (8 * a + j) &&& 7 = nI j := by
    rcases h9 with rfl | rfl | rfl | rfl | rfl | rfl | rfl | rfl <;> rcases h8 with rfl | rfl | rfl <;> decide
  rw [e7]
  have eU : ((Int32.toInt64 (56 - (8 * nI j))).toUInt64 &&& Int64.toUInt64 63).toNat = 56 - 8 * j := by
    rcases h9 with rfl | rfl | rfl | rfl | rfl | rfl | rfl | rfl <;> decide
  have eS : (Int32.toInt64 (nI (56 - 8 * j)) &&& 63).toBitVec.toNat = 56 - 8 * j := by
    rcases h9 with rfl | rfl | rfl | rfl | rfl | rfl | rfl | rfl <;> decide
  have k1 : ((Int64.toUInt64 w >>> ((Int32.toInt64 (56 - (8 * nI j))).toUInt64 &&& Int64.toUInt64 63)).toInt64).toBitVec = w.toBitVec >>> (56 - 8 * j) := by
    show (Int64.toUInt64 w >>> ((Int32.toInt64 (56 - (8 * nI j))).toUInt64 &&& Int64.toUInt64 63)).toBitVec = _
    rw [UInt64.toBitVec_shiftRight]
    show w.toBitVec >>> (((Int32.toInt64 (56 - (8 * nI j))).toUInt64 &&& Int64.toUInt64 63).toBitVec % 64) = _
    rcases h9 with rfl | rfl | rfl | rfl | rfl | rfl | rfl | rfl <;> rfl
  have k2 : (w >>> (Int32.toInt64 (nI (56 - 8 * j)) &&& 63)).toBitVec = w.toBitVec.sshiftRight (56 - 8 * j) := by
    rw [Int64.toBitVec_shiftRight]
    rcases h9 with rfl | rfl | rfl | rfl | rfl | rfl | rfl | rfl <;> rfl
  rw [Int64.toBitVec_and, Int64.toBitVec_and, k1, k2]
  exact key (56 - 8 * j) (by omega)
/-- what a feeding keeps -/
def tpS (V V' : Vw) : Prop := ∀ b k, ¬ (b = 47 ∨ (b = 46 ∧ k = 1)) → V' b k = V b k
theorem tpS.rf (V : Vw) : tpS V V := fun _ _ _ => rfl
theorem tpS.trans {V V1 V2 : Vw} (h : tpS V V1) (k : tpS V1 V2) : tpS V V2 := fun b j hb => (k b j hb).trans (h b j hb)
theorem fd1_tp (V : Vw) (c : Int32) : tpS V (fd1 V c) := by
  intro b k hb
  unfold fd1
  split
  · rfl
  · split
    · rw [vU_ne _ _ (by omega), vU_ne _ _ (by omega)]
    · rfl
theorem fdK_tp (w : Int64) : ∀ (k j : Nat) (V : Vw), tpS V (fdK w k j V) := by
  intro k
  induction k with
  | zero => intro j V; exact tpS.rf V
  | succ k ih => intro j V; exact (fd1_tp V (bY w j)).trans (ih (j + 1) _)
/-- the tape as the world holds it -/
def tpOk (V : Vw) : Prop := is_n (V 46 1) 1000 ∧ (∀ k, k < (V 46 1).toNatClampNeg → ∃ c : Nat, V 47 k = nI c ∧ (c = 10 ∨ (32 ≤ c ∧ c ≤ 126)))
theorem okS_n {c : Int32} (h : okS c = true) : ∃ n : Nat, c = nI n ∧ (n = 10 ∨ (32 ≤ n ∧ n ≤ 126)) := by
  unfold okS at h
  simp only [Bool.or_eq_true, Bool.and_eq_true, Bool.not_eq_true', decide_eq_true_eq, decide_eq_false_iff_not] at h
  rcases h with h | ⟨h1, h2⟩
  · exact ⟨10, h, Or.inl rfl⟩
  · have hneg : ¬ c < 0 := fun h9 => h1 (Int32.lt_of_lt_of_le h9 (by decide))
    obtain ⟨n, hn, rfl⟩ := nI_of hneg
    exact ⟨n, rfl, Or.inr ⟨Nat.le_of_not_lt fun h9 => h1 ((nI_ltI (b := 32) hn (by decide)).mpr h9), Nat.le_of_not_lt fun h9 => h2 ((nI_ltI (a := 126) (by decide) hn).mpr h9)⟩⟩
theorem fd1_ok {V : Vw} (h : tpOk V) (c : Int32) : tpOk (fd1 V c) := by
  obtain ⟨⟨n, hn, e⟩, h2⟩ := h
  unfold fd1
  by_cases c1 : 1000 ≤ V 46 1
  · rw [if_pos c1]; exact ⟨⟨n, hn, e⟩, h2⟩
  · rw [if_neg c1]
    by_cases c2 : okS c = true
    · have hn2 : n < 1000 := by
        rw [e] at c1
        exact Nat.lt_of_not_le fun h9 => c1 (nI_le (a := 1000) h9 (by omega))
      rw [if_pos c2, e, nI_1, nI_clamp (by omega)]
      rw [e, nI_clamp (by omega)] at h2
      refine ⟨⟨n + 1, by omega, vU_at _ _ _ _⟩, fun k hk => ?_⟩
      rw [vU_at, nI_clamp (by omega)] at hk
      rw [vU_ne _ _ (by omega)]
      by_cases ek : k = n
      · rw [ek, vU_at]; exact okS_n c2
      · rw [vU_ne _ _ (by omega)]; exact h2 k (by omega)
    · rw [if_neg c2]; exact ⟨⟨n, hn, e⟩, h2⟩
theorem fdK_ok (w : Int64) : ∀ (k j : Nat) (V : Vw), tpOk V → tpOk (fdK w k j V) := by
  intro k
  induction k with
  | zero => intro j V h; exact h
  | succ k ih => intro j V h; exact ih (j + 1) _ (fd1_ok h _)
/-- the class's reader -/
def tpC (V : Vw) (s : Sg) : Prop := mI s 42 2 = V 46 1 ∧ (∀ k, k < 1000 → mI s 43 k = V 47 k)
def K42 (s s' : Sg) : Prop := (mN s' = mN s ∧ s'.2.2.1 = s.2.2.1) ∧ (∀ a k, a ≠ 43 → ¬ (a = 42 ∧ k = 2) → mI s' a k = mI s a k) ∧ (∀ a k, mL s' a k = mL s a k)
theorem K42.rf (s : Sg) : K42 s s := ⟨⟨rfl, rfl⟩, fun _ _ _ _ => rfl, fun _ _ => rfl⟩
theorem K42.trans {s0 s1 s2 : Sg} (h : K42 s0 s1) (k : K42 s1 s2) : K42 s0 s2 := ⟨⟨k.1.1.trans h.1.1, k.1.2.trans h.1.2⟩, fun a j h1 h2 => (k.2.1 a j h1 h2).trans (h.2.1 a j h1 h2), fun a j => (k.2.2 a j).trans (h.2.2 a j)⟩
theorem K42.b {s s' : Sg} (h : K42 s s') (hb : zl_B s) : zl_B s' := ⟨by rw [h.1.1]; exact hb.1, by rw [h.1.2]; exact hb.2⟩
theorem nar_c : ∀ n, n < 127 → vp_nar .char ((Int32.toUInt32 (nI n) % 65536).toInt32) = nI n := by decide +kernel
theorem k_append_h (w : Int64) : ∀ (k j n : Nat) (V : Vw) (s : Sg), zl_B s → tpOk V → tpC V s → j + k = 8 → k < n → ∃ s', f_Rd_append_h3 n w (nI 56 - 8 * nI j) s = some ((), s') ∧ tpC (fdK w k j V) s' ∧ K42 s s' := by
  intro k
  induction k with
  | zero =>
    intro j n V s hb ho ht hj hn
    obtain ⟨n, rfl⟩ : ∃ m, n = m + 1 := ⟨n - 1, by omega⟩
    obtain rfl : j = 8 := by omega
    exact ⟨s, rfl, ht, K42.rf s⟩
  | succ k ih =>
    intro j n V s hb ho ht hj hn
    obtain ⟨n, rfl⟩ : ∃ m, n = m + 1 := ⟨n - 1, by omega⟩
    have e1 : ∀ j, j < 8 → nI 56 - 8 * nI j = nI (56 - 8 * j) ∧ nI (56 - 8 * j) + (-8) = nI 56 - 8 * nI (j + 1) := by decide
    obtain ⟨a1, a2⟩ := e1 j (by omega)
    obtain ⟨t1, t2⟩ := ht
    have hi := fun s1 hb1 ht1 => ih (j + 1) n (fd1 V (bY w j)) s1 hb1 (fd1_ok ho _) ht1 (by omega) (by omega)
    have hskip : fd1 V (bY w j) = V → ∃ s', f_Rd_append_b70 (f_Rd_append_h3 n) w (nI (56 - 8 * j)) s = some ((), s') ∧ tpC (fdK w (k + 1) j V) s' ∧ K42 s s' := by
      intro e
      obtain ⟨s1, e2, t3, k3⟩ := hi s hb (by rw [e]; exact ⟨t1, t2⟩)
      refine ⟨s1, ?_, t3, k3⟩
      unfold f_Rd_append_b70
      rw [a2]
      exact e2
    have htake : ¬ 1000 ≤ V 46 1 → okS (bY w j) = true → ∃ s', f_Rd_append_b48 (f_Rd_append_h3 n) w (nI (56 - 8 * j)) (bY w j) s = some ((), s') ∧ tpC (fdK w (k + 1) j V) s' ∧ K42 s s' := by
      intro c1 c2
      obtain ⟨⟨m, hm, em⟩, -⟩ := ho
      have hm2 : m < 1000 := by
        rw [em] at c1
        exact Nat.lt_of_not_le fun h9 => c1 (nI_le (a := 1000) h9 (by omega))
      obtain ⟨c, ec, hc⟩ := okS_n c2
      have eV : fd1 V (bY w j) = vU (vU V 47 m (bY w j)) 46 1 (nI (m + 1)) := by
        unfold fd1
        rw [if_neg c1, if_pos c2, em, nI_clamp (by omega), nI_1]
      obtain ⟨s1, e2, t3, k3⟩ := hi (uI (uI s 43 m (nI c)) 42 2 (nI (m + 1))) hb (by
        rw [eV]
        refine ⟨by rw [mI_at, vU_at], fun x hx => ?_⟩
        rw [mI_ne _ _ (by omega), vU_ne _ _ (by omega)]
        by_cases ex : x = m
        · rw [ex, mI_at, vU_at, ec]
        · rw [mI_ne _ _ (by omega), vU_ne _ _ (by omega)]; exact t2 x hx)
      have kk : K42 s (uI (uI s 43 m (nI c)) 42 2 (nI (m + 1))) := ⟨⟨rfl, rfl⟩, fun a x h1 h2 => by rw [mI_ne _ _ (by omega), mI_ne _ _ (by omega)], fun _ _ => rfl⟩
      refine ⟨s1, ?_, t3, kk.trans k3⟩
      unfold f_Rd_append_b48 f_Rd_append_b70
      have et : mI s 42 2 = nI m := t1.trans em
      have et2 : mI (uI s 43 m (nI c)) 42 2 = nI m := by rw [mI_ne _ _ (by omega)]; exact et
      rw [f_ck_of hb, et, f_ck_of (vp_in_nI hm2 (by decide)), nI_clamp (by omega), ec, nar_c c (by omega)]
      simp only [et2, nI_1, a2]
      exact e2
    rw [a1]
    show ∃ s', f_Rd_append_b3 _ _ _ _ = _ ∧ _
    unfold f_Rd_append_b3
    rw [if_neg (nI_pos (by omega))]
    show ∃ s', (f_ck (zl_B s) (if 1000 ≤ mI s 42 2 then f_Rd_append_b70 (f_Rd_append_h3 n) w (nI (56 - 8 * j)) s else if bY w j = 10 then f_Rd_append_b48 (f_Rd_append_h3 n) w (nI (56 - 8 * j)) (bY w j) s else if bY w j < 32 then f_Rd_append_b70 (f_Rd_append_h3 n) w (nI (56 - 8 * j)) s else if 126 < bY w j then f_Rd_append_b70 (f_Rd_append_h3 n) w (nI (56 - 8 * j)) s else f_Rd_append_b48 (f_Rd_append_h3 n) w (nI (56 - 8 * j)) (bY w j) s)) = _ ∧ _
    rw [f_ck_of hb, t1]
    by_cases c1 : 1000 ≤ V 46 1
    · rw [if_pos c1]
      exact hskip (by unfold fd1; rw [if_pos c1])
    · rw [if_neg c1]
      by_cases c2 : bY w j = 10
      · rw [if_pos c2]
        exact htake c1 (by unfold okS; simp [c2])
      · rw [if_neg c2]
        by_cases c3 : bY w j < 32
        · rw [if_pos c3]
          exact hskip (by unfold fd1 okS; rw [if_neg c1]; simp [c2, c3])
        · rw [if_neg c3]
          by_cases c4 : 126 < bY w j
          · rw [if_pos c4]
            exact hskip (by unfold fd1 okS; rw [if_neg c1]; simp [c2, c4])
          · rw [if_neg c4]
            exact htake c1 (by unfold okS; simp [c3, c4])
theorem k_append (w : Int64) {V : Vw} {s : Sg} (hb : zl_B s) (ho : tpOk V) (ht : tpC V s) : ∃ s', f_Rd_append w s = some ((), s') ∧ tpC (fdK w 8 0 V) s' ∧ K42 s s' := by
  unfold f_Rd_append
  exact k_append_h w 8 0 zl_fl V s hb ho ht (by decide) (zl_fl_lt (by decide))
def fdA (V : Vw) (a b c : Int64) : Vw := fdK c 8 0 (fdK b 8 0 (fdK a 8 0 V))
theorem k_feed {V : Vw} {s : Sg} (hb : zl_B s) (ho : tpOk V) (ht : tpC V s) (a b c : Int64) : ∃ s', f_Wk_feed a b c s = some (fdA V a b c 46 1, s') ∧ tpC (fdA V a b c) s' ∧ K42 s s' := by
  obtain ⟨s1, e1, t1, k1⟩ := k_append a hb ho ht
  obtain ⟨s2, e2, t2, k2⟩ := k_append b (k1.b hb) (fdK_ok a 8 0 V ho) t1
  obtain ⟨s3, e3, t3, k3⟩ := k_append c ((k1.trans k2).b hb) (fdK_ok b 8 0 _ (fdK_ok a 8 0 V ho)) t2
  refine ⟨s3, ?_, t3, (k1.trans k2).trans k3⟩
  unfold f_Wk_feed
  rw [f_ck_of hb, f_bd_of e1, f_ck_of (k1.b hb), f_bd_of e2, f_ck_of ((k1.trans k2).b hb), f_bd_of e3, f_ck_of (((k1.trans k2).trans k3).b hb), t3.1]
  rfl
end
