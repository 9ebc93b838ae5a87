/-! the constructors, all of them -/
section
variable {L : Nat} {xs : Nat → Int32} {m t : Nat} {rs : List (Nat × Nat × Nat)} {s s' : Sg}
def woL : List (Nat × Nat × Nat) := [(1, 10, 32768), (2, 10, 256), (3, 11, 8), (4, 10, 32)]
def owL : List (Nat × Nat × Nat) := [(0, 10, 3), (1, 10, 3), (2, 10, 16), (3, 10, 16)]
def rdL : List (Nat × Nat × Nat) := [(0, 12, 1000), (1, 11, 7)]
def moL : List (Nat × Nat × Nat) := [(2, 10, 1000), (13, 11, 14), (14, 10, 8), (15, 10, 32), (16, 10, 16), (17, 10, 16), (18, 10, 16), (19, 10, 16), (20, 10, 2000), (25, 10, 7), (26, 13, 7), (27, 10, 7), (28, 10, 7), (29, 10, 7), (30, 10, 7), (31, 10, 7), (32, 10, 7), (33, 10, 7), (34, 10, 7), (35, 10, 7), (36, 10, 20), (37, 10, 2048), (40, 10, 3), (41, 10, 3), (42, 10, 3), (43, 10, 3), (44, 13, 3), (48, 10, 12), (49, 10, 12), (57, 13, 4), (58, 10, 560), (59, 11, 28), (60, 10, 8192)]
def rr1 : List (Nat × Nat × Nat) := mkR 7 toL 8 []
def rr2 : List (Nat × Nat × Nat) := mkR 6 woL 17 ((6, 0, 7) :: rr1)
def rr3 : List (Nat × Nat × Nat) := (5, 1, 7) :: (5, 0, 6) :: rr2
def rr4 : List (Nat × Nat × Nat) := mkR 21 owL 22 rr3
def rr6 : List (Nat × Nat × Nat) := mkR 26 owL 27 ((5, 2, 21) :: rr4)
def rr8 : List (Nat × Nat × Nat) := (4, 2, 7) :: (4, 1, 6) :: (4, 0, 5) :: (5, 3, 26) :: rr6
def rr9 : List (Nat × Nat × Nat) := mkR 31 toL 32 rr8
def rr10 : List (Nat × Nat × Nat) := (4, 4, 41) :: (4, 3, 31) :: rr9
def rr11 : List (Nat × Nat × Nat) := mkR 42 rdL 43 rr10
def rr12 : List (Nat × Nat × Nat) := (4, 6, 45) :: (4, 5, 42) :: rr11
def rr13 : List (Nat × Nat × Nat) := mkR 46 moL 47 rr12
theorem cn_at (h : Cn L xs m rs t s) {a kd : Nat} (hd : (decide (4 ≤ a) && decide (a < m) && decide ((zn_SH a).1 = kd) && decide (kd < 7)) = true) : zl_at s a kd := by
  simp only [Bool.and_eq_true, decide_eq_true_eq] at hd
  exact ⟨hd.1.1.1, by rw [h.1]; exact hd.1.1.2, hd.1.2, hd.2⟩
theorem cn_r (h : Cn L xs m rs t s) {a j x : Nat} (hd : lk rs a j = some x) : mR s a j = some x := (h.2.1 a j).trans hd
theorem gC_cg {t' a k : Nat} (h1 : a = 14 → k < 3 → (1 ≤ t' ↔ 1 ≤ t)) (h2 : a = 6 → 5 ≤ k → k ≤ 7 → (2 ≤ t' ↔ 2 ≤ t)) (h3 : a = 38 → k < 3 → (3 ≤ t' ↔ 3 ≤ t)) (h4 : a = 45 → k < 216 → (4 ≤ t' ↔ 4 ≤ t)) (h5 : a = 70 → k < 3 → (5 ≤ t' ↔ 5 ≤ t)) : gC L xs t' a k = gC L xs t a k := by
  have e1 : (a = 14 ∧ k < 3 ∧ 1 ≤ t') = (a = 14 ∧ k < 3 ∧ 1 ≤ t) := propext ⟨fun q => ⟨q.1, q.2.1, (h1 q.1 q.2.1).mp q.2.2⟩, fun q => ⟨q.1, q.2.1, (h1 q.1 q.2.1).mpr q.2.2⟩⟩
  have e2 : ∀ j, 5 ≤ j → j ≤ 7 → (a = 6 ∧ k = j ∧ 2 ≤ t') = (a = 6 ∧ k = j ∧ 2 ≤ t) := fun j j1 j2 => propext ⟨fun q => ⟨q.1, q.2.1, (h2 q.1 (by omega) (by omega)).mp q.2.2⟩, fun q => ⟨q.1, q.2.1, (h2 q.1 (by omega) (by omega)).mpr q.2.2⟩⟩
  have e3 : (a = 38 ∧ k < 3 ∧ 3 ≤ t') = (a = 38 ∧ k < 3 ∧ 3 ≤ t) := propext ⟨fun q => ⟨q.1, q.2.1, (h3 q.1 q.2.1).mp q.2.2⟩, fun q => ⟨q.1, q.2.1, (h3 q.1 q.2.1).mpr q.2.2⟩⟩
  have e4 : (a = 45 ∧ k < 216 ∧ 4 ≤ t') = (a = 45 ∧ k < 216 ∧ 4 ≤ t) := propext ⟨fun q => ⟨q.1, q.2.1, (h4 q.1 q.2.1).mp q.2.2⟩, fun q => ⟨q.1, q.2.1, (h4 q.1 q.2.1).mpr q.2.2⟩⟩
  have e5 : (a = 70 ∧ k < 3 ∧ 5 ≤ t') = (a = 70 ∧ k < 3 ∧ 5 ≤ t) := propext ⟨fun q => ⟨q.1, q.2.1, (h5 q.1 q.2.1).mp q.2.2⟩, fun q => ⟨q.1, q.2.1, (h5 q.1 q.2.1).mpr q.2.2⟩⟩
  unfold gC
  simp only [e1, e2 5 (by decide) (by decide), e2 6 (by decide) (by decide), e2 7 (by decide) (by decide), e3, e4, e5]
theorem gC_14 (k : Nat) (hk : k < 3) (ht : 1 ≤ t) : gC L xs t 14 k = 1 := by
  unfold gC
  rw [if_neg (by omega), if_neg (by omega), if_neg (by omega), if_pos ⟨rfl, hk, ht⟩]
theorem gC_38 (k : Nat) (hk : k < 3) (ht : 3 ≤ t) : gC L xs t 38 k = 1 := by
  unfold gC
  rw [if_neg (by omega), if_neg (by omega), if_neg (by omega), if_neg (by omega), if_neg (by omega), if_neg (by omega), if_neg (by omega), if_pos ⟨rfl, hk, ht⟩]
theorem gC_45 (k : Nat) (hk : k < 216) (ht : 4 ≤ t) : gC L xs t 45 k = 1073741824 := by
  unfold gC
  rw [if_neg (by omega), if_neg (by omega), if_neg (by omega), if_neg (by omega), if_neg (by omega), if_neg (by omega), if_neg (by omega), if_neg (by omega), if_pos ⟨rfl, hk, ht⟩]
theorem gC_70 (k : Nat) (hk : k < 3) (ht : 5 ≤ t) : gC L xs t 70 k = 1 := by
  unfold gC
  rw [if_neg (by omega), if_neg (by omega), if_neg (by omega), if_neg (by omega), if_neg (by omega), if_neg (by omega), if_neg (by omega), if_neg (by omega), if_neg (by omega), if_pos ⟨rfl, hk, ht⟩]
theorem gC_65 (ht : 2 ≤ t) : gC L xs t 6 5 = 1 := by
  unfold gC
  rw [if_neg (by omega), if_neg (by omega), if_neg (by omega), if_neg (by omega), if_pos ⟨rfl, rfl, ht⟩]
theorem gC_66 (ht : 2 ≤ t) : gC L xs t 6 6 = -1 := by
  unfold gC
  rw [if_neg (by omega), if_neg (by omega), if_neg (by omega), if_neg (by omega), if_neg (by omega), if_pos ⟨rfl, rfl, ht⟩]
theorem gC_67 (ht : 2 ≤ t) : gC L xs t 6 7 = 10 := by
  unfold gC
  rw [if_neg (by omega), if_neg (by omega), if_neg (by omega), if_neg (by omega), if_neg (by omega), if_neg (by omega), if_pos ⟨rfl, rfl, ht⟩]
theorem g_To7 (a k : Nat) : gC L xs 1 a k = if (a = 7 ∧ k < 6) ∨ ((a = 7 + 6 ∨ a = 7 + 8 ∨ a = 7 + 9) ∧ k < 3) then 0 else if a = 7 + 7 ∧ k < 3 then 1 else gC L xs 0 a k := by
  by_cases c1 : (a = 7 ∧ k < 6) ∨ ((a = 7 + 6 ∨ a = 7 + 8 ∨ a = 7 + 9) ∧ k < 3)
  · rw [if_pos c1]
    exact gC_z (by omega) (by omega) (by omega) (by omega) (by omega) (by omega)
  · rw [if_neg c1]
    by_cases c2 : a = 7 + 7 ∧ k < 3
    · rw [if_pos c2, c2.1]
      exact gC_14 k c2.2 (by decide)
    · rw [if_neg c2]
      exact gC_cg (by omega) (by omega) (by omega) (by omega) (by omega)
theorem g_To31 (a k : Nat) : gC L xs 3 a k = if (a = 31 ∧ k < 6) ∨ ((a = 31 + 6 ∨ a = 31 + 8 ∨ a = 31 + 9) ∧ k < 3) then 0 else if a = 31 + 7 ∧ k < 3 then 1 else gC L xs 2 a k := by
  by_cases c1 : (a = 31 ∧ k < 6) ∨ ((a = 31 + 6 ∨ a = 31 + 8 ∨ a = 31 + 9) ∧ k < 3)
  · rw [if_pos c1]
    exact gC_z (by omega) (by omega) (by omega) (by omega) (by omega) (by omega)
  · rw [if_neg c1]
    by_cases c2 : a = 31 + 7 ∧ k < 3
    · rw [if_pos c2, c2.1]
      exact gC_38 k c2.2 (by decide)
    · rw [if_neg c2]
      exact gC_cg (by omega) (by omega) (by omega) (by omega) (by omega)
noncomputable def kW6 (s27 : Sg) : Option (Unit × Sg) := f_ck (zl_at s27 6 4) (f_ck (zl_at (uI s27 6 5 1) 6 4) (f_ck (zl_at (uI (uI s27 6 5 1) 6 6 (-1)) 6 4) (some ((), uI (uI (uI s27 6 5 1) 6 6 (-1)) 6 7 10))))
theorem c_Wo (h : Cn L xs 7 [] 0 s) : ∃ s', f_Wo_init s = some ((), s') ∧ Cn L xs 21 rr2 2 s' := by
  have h1 := cn_new h (by decide) (by decide)
  obtain ⟨s5, e5, c5⟩ := c_To (a0 := 7) h1 (by decide) (by decide +kernel) (by decide +kernel) ⟨by decide, by decide, by decide, by decide, by decide, by decide, by decide, by decide, by decide, by decide⟩ (by decide) (t' := 1) g_To7
  have c7 := cn_ref c5 6 0 7
  obtain ⟨s27, c27, e27⟩ := mkA_go (a0 := 6) (kd := 4) (by decide) (K := kW6) woL _ _ _ c7 (by decide +kernel)
  refine ⟨uI (uI (uI s27 6 5 1) 6 6 (-1)) 6 7 10, ?_, c27.1, c27.2.1, fun a k => ?_, c27.2.2.2⟩
  · unfold f_Wo_init
    refine ck_t (by rw [h.1]; decide) ?_
    rw [h.1]
    refine (f_bd_of e5).trans (ck_t (cn_at c5 (by decide)) ?_)
    refine (show _ = mkA 6 4 woL (uR s5 6 0 (some 7)) kW6 from rfl).trans (e27.trans ?_)
    have A := cn_at c27 (a := 6) (kd := 4) (by decide)
    exact ck_t A (ck_t A (ck_t A rfl))
  · by_cases q7 : a = 6 ∧ k = 7
    · rw [q7.1, q7.2, mI_at, gC_67 (by decide)]
    · rw [mI_ne _ _ q7]
      by_cases q6 : a = 6 ∧ k = 6
      · rw [q6.1, q6.2, mI_at, gC_66 (by decide)]
      · rw [mI_ne _ _ q6]
        by_cases q5 : a = 6 ∧ k = 5
        · rw [q5.1, q5.2, mI_at, gC_65 (by decide)]
        · rw [mI_ne _ _ q5, c27.2.2.1]
          exact (gC_cg (by omega) (by omega) (by omega) (by omega) (by omega)).symm
theorem c_Ow {a0 : Nat} (h : Cn L xs (a0 + 1) rs t s) (h0 : (decide (4 ≤ a0) && decide ((zn_SH a0).1 = 0) && decide (0 < 7)) = true) (hc : mkC a0 0 t owL (a0 + 1) rs = true) : ∃ s', f_Ow_init a0 s = some ((), s') ∧ Cn L xs (a0 + 1 + 4) (mkR a0 owL (a0 + 1) rs) t s' := by
  obtain ⟨s1, c1, e1⟩ := mkA_go h0 (K := fun s => some ((), s)) owL _ _ s h hc
  exact ⟨s1, (show f_Ow_init a0 s = mkA a0 0 owL s (fun s => some ((), s)) from rfl).trans e1, c1⟩
theorem c_Rd (h : Cn L xs 43 rr10 t s) (hc : mkC 42 1 t rdL 43 rr10 = true) : ∃ s', f_Rd_init s = some ((), s') ∧ Cn L xs 45 rr11 t s' := by
  obtain ⟨s1, c1, e1⟩ := mkA_go (a0 := 42) (kd := 1) (by decide) (K := fun s => some ((), s)) rdL _ _ s h hc
  exact ⟨s1, (show f_Rd_init s = mkA 42 1 rdL s (fun s => some ((), s)) from rfl).trans e1, c1⟩
theorem c_Tu (h : Cn L xs 6 [] 0 s) : ∃ s', f_Tu_init s = some ((), s') ∧ Cn L xs 31 ((5, 3, 26) :: rr6) 2 s' := by
  have h1 := cn_new h (by decide) (by decide)
  obtain ⟨s6, e6, c6⟩ := c_Wo h1
  have c8 := cn_ref c6 5 0 6
  have c14 := cn_ref c8 5 1 7
  have c17 := cn_new c14 (by decide +kernel) (by decide)
  obtain ⟨s19, e19, c19⟩ := c_Ow (a0 := 21) c17 (by decide) (by decide +kernel)
  have c21 := cn_ref c19 5 2 21
  have c24 := cn_new c21 (by decide +kernel) (by decide)
  obtain ⟨s26, e26, c26⟩ := c_Ow (a0 := 26) c24 (by decide) (by decide +kernel)
  have c28 := cn_ref c26 5 3 26
  refine ⟨_, ?_, c28⟩
  unfold f_Tu_init
  refine ck_t (by rw [h.1]; decide) (ck_t h.1 ((f_bd_of e6).trans ?_))
  refine ck_t (cn_at c6 (by decide)) (ck_t (cn_at c8 (by decide)) (ck_t (cn_r c8 (by decide +kernel)) (ck_t (cn_at c8 (by decide)) (ck_t (cn_r c8 (by decide +kernel)) (ck_t (cn_at c8 (by decide)) ?_)))))
  refine ck_t (show (zn_SH (mN (uR (uR s6 5 0 (some 6)) 5 1 (some 7)))).1 = 0 by rw [c14.1]; decide) ?_
  have n14 : mN (uR (uR s6 5 0 (some 6)) 5 1 (some 7)) = 21 := c14.1
  show f_bd (f_Ow_init (mN (uR (uR s6 5 0 (some 6)) 5 1 (some 7))) (uN (uR (uR s6 5 0 (some 6)) 5 1 (some 7)))) _ = _
  rw [n14]
  refine (f_bd_of e19).trans (ck_t (cn_at c19 (by decide)) ?_)
  refine ck_t (show (zn_SH (mN (uR s19 5 2 (some 21)))).1 = 0 by rw [c21.1]; decide) ?_
  have n21 : mN (uR s19 5 2 (some 21)) = 26 := c21.1
  show f_bd (f_Ow_init (mN (uR s19 5 2 (some 21))) (uN (uR s19 5 2 (some 21)))) _ = _
  rw [n21]
  exact (f_bd_of e26).trans (ck_t (cn_at c26 (by decide)) rfl)
theorem c_fp_h : ∀ (k x n : Nat) (s : Sg), 46 ≤ mN s → mR s 4 6 = some 45 → x + k = 216 → k < n → ∃ s', f_Wk_forgetPlain_h2 n (nI x) s = some ((), s') ∧ FR (fun a j => a = 45 ∧ x ≤ j ∧ j < 216) NoL s s' ∧ (∀ j, x ≤ j → j < 216 → mI s' 45 j = 1073741824) := by
  intro k
  induction k with
  | zero =>
    intro x n s hn81 o2 hx hn
    obtain ⟨n, rfl⟩ : ∃ m, n = m + 1 := ⟨n - 1, by omega⟩
    obtain rfl : x = 216 := by omega
    exact ⟨s, rfl, FR.rf _ _ _, fun j h1 h2 => by omega⟩
  | succ k ih =>
    intro x n s hn81 o2 hx hn
    obtain ⟨n, rfl⟩ : ∃ m, n = m + 1 := ⟨n - 1, by omega⟩
    have o1 : zl_at s 4 5 := ⟨by decide, by omega, by decide, by decide⟩
    have o3 : zl_ar s 45 10 216 := ⟨by decide, by omega, by decide, by decide, by decide⟩
    obtain ⟨s2, e2, f2, g2⟩ := ih (x + 1) n (uI s 45 x 1073741824) hn81 o2 (by omega) (by omega)
    have f1 : FR (fun a j => a = 45 ∧ x ≤ j ∧ j < 216) NoL s (uI s 45 x 1073741824) := fr_uI s _ ⟨rfl, by omega, by omega⟩
    refine ⟨s2, ?_, f1.tr (f2.mo (fun a j g => by have q' : a = 45 ∧ x + 1 ≤ j ∧ j < 216 := g; exact ⟨q'.1, by omega, q'.2.2⟩) (fun _ _ g => g)), fun j h1 h2 => ?_⟩
    · show f_Wk_forgetPlain_b2 _ _ _ = _
      unfold f_Wk_forgetPlain_b2
      rw [if_neg (show ¬ (216 : Int32) ≤ nI x from nI_ge (b := 216) (by omega) (by decide)), f_ck_of o1, f_ck_of o2, f_ck_of o3, f_ck_of (vp_in_nI (by omega) (by decide)), nI_clamp (by omega), nI_1]
      exact e2
    · by_cases e : j = x
      · rw [e, f2.2.1 45 x (fun q => by have q' : 45 = 45 ∧ x + 1 ≤ x ∧ x < 216 := q; omega), mI_at]
      · exact g2 j (by omega) h2
theorem c_Wk (h : Cn L xs 5 [] 0 s) : ∃ s', f_Wk_init s = some ((), s') ∧ Cn L xs 46 rr12 4 s' := by
  have h1 := cn_new h (by decide) (by decide)
  obtain ⟨s6, e6, c6⟩ := c_Tu h1
  have c8 := cn_ref c6 4 0 5
  have c14 := cn_ref c8 4 1 6
  have c20 := cn_ref c14 4 2 7
  have c23 := cn_new c20 (by decide +kernel) (by decide)
  obtain ⟨s25, e25, c25⟩ := c_To (a0 := 31) c23 (by decide) (by decide +kernel) (by decide +kernel) ⟨by decide, by decide, by decide, by decide, by decide, by decide, by decide, by decide, by decide, by decide⟩ (by decide) (t' := 3) g_To31
  have c27 := cn_ref c25 4 3 31
  have c30 := cn_new c27 (by decide +kernel) (by decide)
  have c32 := cn_ref c30 4 4 41
  have c36 := cn_new c32 (by decide +kernel) (by decide)
  obtain ⟨s38, e38, c38⟩ := c_Rd c36 (by decide +kernel)
  have c40 := cn_ref c38 4 5 42
  have c43 := cn_new c40 (by decide +kernel) (by decide)
  have c45 := cn_ref c43 4 6 45
  obtain ⟨s48, e48, f48, v48⟩ := c_fp_h 216 0 zl_fl (uR (uN (uR s38 4 5 (some 42))) 4 6 (some 45)) (by rw [c45.1]; decide) (cn_r c45 (by decide +kernel)) (by decide) (zl_fl_lt (by decide))
  refine ⟨s48, ?_, f48.1.1.trans c45.1, fun a j => (f48.r a j).trans (c45.2.1 a j), fun a k => ?_, fun a k => (f48.2.2 a k (fun q => q)).trans (c45.2.2.2 a k)⟩
  · unfold f_Wk_init
    refine ck_t (by rw [h.1]; decide) (ck_t h.1 ((f_bd_of e6).trans ?_))
    refine ck_t (cn_at c6 (by decide)) (ck_t (cn_at c8 (by decide)) (ck_t (cn_r c8 (by decide +kernel)) (ck_t (cn_at c8 (by decide)) (ck_t (cn_r c8 (by decide +kernel)) (ck_t (cn_at c8 (by decide)) ?_)))))
    refine ck_t (cn_at c14 (by decide)) (ck_t (cn_r c14 (by decide +kernel)) (ck_t (cn_at c14 (by decide)) (ck_t (cn_r c14 (by decide +kernel)) (ck_t (cn_at c14 (by decide)) ?_))))
    refine ck_t (show (zn_SH (mN (uR (uR (uR s6 4 0 (some 5)) 4 1 (some 6)) 4 2 (some 7)))).1 = 2 by rw [c20.1]; decide) ?_
    have n20 : mN (uR (uR (uR s6 4 0 (some 5)) 4 1 (some 6)) 4 2 (some 7)) = 31 := c20.1
    show f_bd (f_To_init (mN (uR (uR (uR s6 4 0 (some 5)) 4 1 (some 6)) 4 2 (some 7))) (uN (uR (uR (uR s6 4 0 (some 5)) 4 1 (some 6)) 4 2 (some 7)))) (fun r24 s25 => f_ck (zl_at s25 4 5) (f_ck (zn_SH (mN (uR s25 4 3 (some (mN (uR (uR (uR s6 4 0 (some 5)) 4 1 (some 6)) 4 2 (some 7)))))) = (14, 4)) _)) = _
    rw [n20]
    refine (f_bd_of e25).trans (ck_t (cn_at c25 (by decide)) (ck_t (show zn_SH (mN (uR s25 4 3 (some 31))) = (14, 4) by rw [c27.1]; decide) ?_))
    have n27 : mN (uR s25 4 3 (some 31)) = 41 := c27.1
    have n40 : mN (uR s38 4 5 (some 42)) = 45 := c40.1
    rw [n27]
    refine ck_t (cn_at c30 (by decide)) (ck_t (show (zn_SH (mN (uR (uN (uR s25 4 3 (some 31))) 4 4 (some 41)))).1 = 1 by rw [c32.1]; decide) (ck_t c32.1 ((f_bd_of e38).trans ?_)))
    refine ck_t (cn_at c38 (by decide)) (ck_t (show zn_SH (mN (uR s38 4 5 (some 42))) = (10, 216) by rw [c40.1]; decide) ?_)
    rw [n40]
    refine ck_t (cn_at c43 (by decide)) (ck_t (cn_at c45 (by decide)) ?_)
    exact (f_bd_of (show f_Wk_forgetPlain _ = some ((), s48) from e48)).trans rfl
  · by_cases q : a = 45 ∧ k < 216
    · rw [q.1, v48 k (Nat.zero_le _) q.2, gC_45 k q.2 (by decide)]
    · rw [f48.2.1 a k (fun g => by have q' : a = 45 ∧ 0 ≤ k ∧ k < 216 := g; omega), c45.2.2.1]
      exact (gC_cg (by omega) (by omega) (by omega) (by omega) (by omega)).symm
theorem c_fg_h : ∀ (k x F : Nat) (s : Sg), 74 ≤ mN s → mR s 46 40 = some 69 → mR s 46 41 = some 70 → mR s 46 44 = some 73 → x + k = 3 → k < F → ∃ s', f_Mo_forgets_h2 F (nI x) s = some ((), s') ∧ FR fgF NoL s s' ∧ (∀ j, x ≤ j → j < 3 → mI s' 69 j = 0 ∧ mI s' 70 j = 1 ∧ mI s' 73 j = 0) ∧ (∀ j, j < x → mI s' 69 j = mI s 69 j ∧ mI s' 70 j = mI s 70 j ∧ mI s' 73 j = mI s 73 j) ∧ mI s' 46 45 = 0 ∧ mI s' 46 46 = 0 ∧ mI s' 46 47 = 0 := by
  intro k
  induction k with
  | zero =>
    intro x F s hn o1 o2 o3 hx hF
    obtain ⟨F, rfl⟩ : ∃ g, F = g + 1 := ⟨F - 1, by omega⟩
    have A0 : zl_at s 46 6 := ⟨by decide, by omega, by decide, by decide⟩
    have f1 : FR fgF NoL s (uI (uI (uI s 46 46 0) 46 47 0) 46 45 0) := ((fr_uI s _ (by unfold fgF; omega)).tr (fr_uI _ _ (by unfold fgF; omega))).tr (fr_uI _ _ (by unfold fgF; omega))
    refine ⟨_, ?_, f1, fun j h1 h2 => absurd h2 (by omega), fun j _ => ⟨?_, ?_, ?_⟩, mI_at _ _ _ _, ?_, ?_⟩
    · show f_Mo_forgets_b2 (f_Mo_forgets_h2 F) (nI x) s = _
      unfold f_Mo_forgets_b2 f_Mo_forgets_b34
      rw [if_pos (show (3 : Int32) ≤ nI x from nI_le (a := 3) (by omega) (by omega))]
      exact ck_t A0 (ck_t A0 (ck_t A0 rfl))
    · rw [mI_ne _ _ (by omega), mI_ne _ _ (by omega), mI_ne _ _ (by omega)]
    · rw [mI_ne _ _ (by omega), mI_ne _ _ (by omega), mI_ne _ _ (by omega)]
    · rw [mI_ne _ _ (by omega), mI_ne _ _ (by omega), mI_ne _ _ (by omega)]
    · rw [mI_ne _ _ (by omega), mI_ne _ _ (by omega)]; exact mI_at _ _ _ _
    · rw [mI_ne _ _ (by omega)]; exact mI_at _ _ _ _
  | succ k ih =>
    intro x F s hn o1 o2 o3 hx hF
    obtain ⟨F, rfl⟩ : ∃ g, F = g + 1 := ⟨F - 1, by omega⟩
    have A0 : zl_at s 46 6 := ⟨by decide, by omega, by decide, by decide⟩
    have v3 : vp_in (nI x) 3 := vp_in_nI (by omega) (by decide)
    obtain ⟨s2, e2, f2, w2, u2, r2⟩ := ih (x + 1) F (uI (uI (uI s 69 x 0) 70 x 1) 73 x 0) hn o1 o2 o3 (by omega) (by omega)
    have f1 : FR fgF NoL s (uI (uI (uI s 69 x 0) 70 x 1) 73 x 0) := ((fr_uI s _ (by unfold fgF; omega)).tr (fr_uI _ _ (by unfold fgF; omega))).tr (fr_uI _ _ (by unfold fgF; omega))
    refine ⟨s2, ?_, f1.tr f2, fun j h1 h2 => ?_, fun j h1 => ?_, r2⟩
    · show f_Mo_forgets_b2 (f_Mo_forgets_h2 F) (nI x) s = _
      unfold f_Mo_forgets_b2
      rw [if_neg (show ¬ (3 : Int32) ≤ nI x from nI_ge (b := 3) (by omega) (by decide)), nI_clamp (by omega), nI_1]
      refine ck_t A0 (ck_t o1 (ck_t (show zl_ar s 69 10 3 from ⟨by decide, by omega, by decide, by decide, by decide⟩) (ck_t v3 ?_)))
      refine ck_t A0 (ck_t o2 (ck_t (show zl_ar s 70 10 3 from ⟨by decide, by omega, by decide, by decide, by decide⟩) (ck_t v3 ?_)))
      refine ck_t A0 (ck_t o3 (ck_t (show zl_ar s 73 13 3 from ⟨by decide, by omega, by decide, by decide, by decide⟩) (ck_t v3 ?_)))
      exact e2
    · by_cases ej : j = x
      · obtain ⟨q1, q2, q3⟩ := u2 x (by omega)
        rw [ej, q1, q2, q3]
        refine ⟨?_, ?_, mI_at _ _ _ _⟩
        · rw [mI_ne _ _ (by omega), mI_ne _ _ (by omega)]; exact mI_at _ _ _ _
        · rw [mI_ne _ _ (by omega)]; exact mI_at _ _ _ _
      · exact w2 j (by omega) h2
    · obtain ⟨q1, q2, q3⟩ := u2 j (by omega)
      rw [q1, q2, q3]
      refine ⟨?_, ?_, ?_⟩
      · rw [mI_ne _ _ (by omega), mI_ne _ _ (by omega), mI_ne _ _ (by omega)]
      · rw [mI_ne _ _ (by omega), mI_ne _ _ (by omega), mI_ne _ _ (by omega)]
      · rw [mI_ne _ _ (by omega), mI_ne _ _ (by omega), mI_ne _ _ (by omega)]
noncomputable def kMo (s : Sg) : Option (Unit × Sg) := f_ck (zl_at s 46 6) (f_bd (f_Mo_forgets s) fun r167 s168 => some ((), s168))
theorem c_Mo (h : Cn L xs 47 rr12 4 s) : ∃ s', f_Mo_init s = some ((), s') ∧ Cn L xs 80 rr13 5 s' := by
  obtain ⟨s1, c1, e1⟩ := mkA_go (a0 := 46) (kd := 6) (by decide) (K := kMo) moL _ _ s h (by decide +kernel)
  have c1' : Cn L xs 80 rr13 4 s1 := c1
  obtain ⟨s2, e2, f2, v2, -, v3⟩ := c_fg_h 3 0 zl_fl s1 (by rw [c1'.1]; decide) (cn_r c1' (by decide +kernel)) (cn_r c1' (by decide +kernel)) (cn_r c1' (by decide +kernel)) (by decide) (zl_fl_lt (by decide))
  refine ⟨s2, ?_, f2.1.1.trans c1'.1, fun a j => (f2.r a j).trans (c1'.2.1 a j), fun a k => ?_, fun a k => (f2.2.2 a k (fun q => q)).trans (c1'.2.2.2 a k)⟩
  · refine (show f_Mo_init s = mkA 46 6 moL s kMo from rfl).trans (e1.trans ?_)
    unfold kMo
    rw [f_ck_of (cn_at c1' (by decide))]
    exact (f_bd_of (show f_Mo_forgets s1 = some ((), s2) from e2)).trans rfl
  · by_cases q : fgF a k
    · unfold fgF at q
      rcases q with ⟨q, hk⟩ | ⟨q, h1, h2⟩
      · obtain ⟨w1, w2, w3⟩ := v2 k (Nat.zero_le _) hk
        rcases q with rfl | rfl | rfl
        · rw [w1]; exact (gC_z (by omega) (by omega) (by omega) (by omega) (by omega) (by omega)).symm
        · rw [w2, gC_70 k hk (by decide)]
        · rw [w3]; exact (gC_z (by omega) (by omega) (by omega) (by omega) (by omega) (by omega)).symm
      · rw [gC_z (by omega) (by omega) (by omega) (by omega) (by omega) (by omega), q]
        obtain rfl | rfl | rfl : k = 45 ∨ k = 46 ∨ k = 47 := by omega
        · exact v3.1
        · exact v3.2.1
        · exact v3.2.2
    · rw [f2.2.1 a k q, c1'.2.2.1]
      unfold fgF at q
      exact (gC_cg (by omega) (by omega) (by omega) (by omega) (by omega)).symm
/-- where the law's loop begins -/
theorem c_law (L : Nat) (xs : Nat → Int32) : ∃ s, f_La_law (zs_0 L xs) = f_La_law_h23 zl_fl 0 s ∧ Cn L xs 81 rr13 5 s := by
  have h0 : Cn L xs 4 [] 0 (zs_0 L xs) := by
    refine ⟨rfl, fun _ _ => rfl, fun a k => ?_, fun _ _ => rfl⟩
    show (if a = 0 then (if k = 4000 then nI L else xs k) else if a = 1 then zs_or k else if a = 3 then zs_by k else 0) = gC L xs 0 a k
    by_cases c0 : a = 0
    · unfold gC
      rw [if_pos c0, if_pos c0]
    · by_cases c1 : a = 1
      · unfold gC
        rw [if_neg c0, if_pos c1, if_neg c0, if_pos c1]
      · by_cases c3 : a = 3
        · unfold gC
          rw [if_neg c0, if_neg c1, if_pos c3, if_neg c0, if_neg c1, if_pos c3]
        · rw [if_neg c0, if_neg c1, if_neg c3]
          unfold gC
          rw [if_neg c0, if_neg c1, if_neg c3, if_neg (by omega), if_neg (by omega), if_neg (by omega), if_neg (by omega), if_neg (by omega), if_neg (by omega), if_neg (by omega)]
  have h4 := cn_new h0 (by decide) (by decide)
  obtain ⟨s6, e6, c6⟩ := c_Wk h4
  have c10 := cn_new c6 (by decide +kernel) (by decide)
  obtain ⟨s12, e12, c12⟩ := c_Mo c10
  have c15 := cn_new c12 (by decide +kernel) (by decide)
  refine ⟨uN s12, ?_, c15⟩
  unfold f_La_law
  refine ck_t (by rw [h0.1]; decide) (ck_t h0.1 ((f_bd_of e6).trans ?_))
  refine ck_t (by rw [c6.1]; decide) (ck_t c6.1 ((f_bd_of e12).trans ?_))
  exact ck_t (by rw [c12.1]; decide) (ck_t c12.1 rfl)
end
