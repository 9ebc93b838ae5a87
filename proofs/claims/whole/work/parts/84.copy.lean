/-! one telling beside another: the class -/
section
variable {s : Sg}
theorem zn_tO (j i : Nat) (hi : i < 10) : zn_SH (81 + 10 * j + i) = zn_tol.getD i (0, 0) := by
  unfold zn_SH
  rw [if_neg (by omega), show (81 + 10 * j + i - 81) % 10 = i by omega]
/-- a told object stands at a -/
def OB (s : Sg) (a : Nat) : Prop := (4 ≤ a ∧ a + 10 ≤ mN s) ∧ (∀ i, i < 9 → mR s a (6 + i) = some (a + 1 + i)) ∧ (zn_SH a).1 = 2 ∧ zn_SH (a + 1) = (10, 4) ∧ zn_SH (a + 2) = (10, 16) ∧ zn_SH (a + 3) = (10, 8) ∧ zn_SH (a + 4) = (10, 9) ∧ zn_SH (a + 5) = (10, 1000) ∧ zn_SH (a + 6) = (10, 3) ∧ zn_SH (a + 7) = (10, 3) ∧ zn_SH (a + 8) = (10, 3) ∧ zn_SH (a + 9) = (10, 3)
theorem OB_7 (hb : zl_B s) : OB s 7 := by
  have hn := hb.1
  refine ⟨⟨by decide, by omega⟩, fun i hi => ?_, by decide, by decide, by decide, by decide, by decide, by decide, by decide, by decide, by decide, by decide⟩
  obtain rfl | rfl | rfl | rfl | rfl | rfl | rfl | rfl | rfl : i = 0 ∨ i = 1 ∨ i = 2 ∨ i = 3 ∨ i = 4 ∨ i = 5 ∨ i = 6 ∨ i = 7 ∨ i = 8 := by omega
  all_goals exact hb.2 _ _ _ (by decide) (by decide)
theorem OB_j {j : Nat} (hn : 81 + 10 * j + 10 ≤ mN s) (hr : ∀ i, i < 9 → mR s (81 + 10 * j) (6 + i) = some (81 + 10 * j + 1 + i)) : OB s (81 + 10 * j) := by
  refine ⟨⟨by omega, hn⟩, hr, ?_, ?_, ?_, ?_, ?_, ?_, ?_, ?_, ?_, ?_⟩
  · rw [show 81 + 10 * j = 81 + 10 * j + 0 by omega, zn_tO j 0 (by decide)]; decide
  all_goals rw [zn_tO j _ (by decide)]; decide
theorem ck_t {α : Type} {p : Prop} {x y : Option α} (h : p) (e : x = y) : f_ck p x = y := by rw [f_ck_of h]; exact e
theorem uC_at (s : Sg) (a0 a : Nat) {n j : Nat} (h : j < n) : mI (uC s a0 a n) a j = mI s a0 j := if_pos ⟨rfl, h⟩
theorem uC_ne (s : Sg) (a0 n j : Nat) {a b : Nat} (h : b ≠ a) : mI (uC s a0 a n) b j = mI s b j := if_neg (fun e => h e.1)
/-- a telling is copied: from a1 to a0 -/
def CPd (s s' : Sg) (a0 a1 : Nat) : Prop := (mN s' = mN s ∧ s'.2.2.1 = s.2.2.1) ∧ (∀ a k, mL s' a k = mL s a k) ∧ (∀ a k, ¬ (a0 ≤ a ∧ a < a0 + 10) → mI s' a k = mI s a k) ∧
  (∀ k, k < 6 → mI s' a0 k = mI s a1 k) ∧ (∀ k, k < 4 → mI s' (a0 + 1) k = mI s (a1 + 1) k) ∧ (∀ k, k < 16 → mI s' (a0 + 2) k = mI s (a1 + 2) k) ∧ (∀ k, k < 8 → mI s' (a0 + 3) k = mI s (a1 + 3) k) ∧ (∀ k, k < 9 → mI s' (a0 + 4) k = mI s (a1 + 4) k) ∧ (∀ k, k < 1000 → mI s' (a0 + 5) k = mI s (a1 + 5) k) ∧
  (∀ k, k < 3 → mI s' (a0 + 6) k = mI s (a1 + 6) k) ∧ (∀ k, k < 3 → mI s' (a0 + 7) k = mI s (a1 + 7) k) ∧ (∀ k, k < 3 → mI s' (a0 + 8) k = mI s (a1 + 8) k) ∧ (∀ k, k < 3 → mI s' (a0 + 9) k = mI s (a1 + 9) k)
theorem k_copyFrom {a0 a1 : Nat} (h0 : OB s a0) (h1 : OB s a1) (hd : a0 + 10 ≤ a1 ∨ a1 + 10 ≤ a0) : ∃ s', f_To_copyFrom a0 a1 s = some ((), s') ∧ CPd s s' a0 a1 := by
  obtain ⟨⟨p1, p2⟩, pr, q0, q1, q2, q3, q4, q5, q6, q7, q8, q9⟩ := h0
  obtain ⟨⟨u1, u2⟩, ur, v0, v1, v2, v3, v4, v5, v6, v7, v8, v9⟩ := h1
  have A0 : zl_at s a0 2 := ⟨p1, by omega, q0, by decide⟩
  have A1 : zl_at s a1 2 := ⟨u1, by omega, v0, by decide⟩
  refine ⟨uC (uC (uC (uC (uC (uC (uC (uC (uC (uI (uI (uI (uI (uI (uI s a0 0 (mI s a1 0)) a0 1 (mI s a1 1)) a0 2 (mI s a1 2)) a0 3 (mI s a1 3)) a0 4 (mI s a1 4)) a0 5 (mI s a1 5)) (a1 + 1) (a0 + 1) 4) (a1 + 2) (a0 + 2) 16) (a1 + 3) (a0 + 3) 8) (a1 + 4) (a0 + 4) 9) (a1 + 5) (a0 + 5) 1000) (a1 + 6) (a0 + 6) 3) (a1 + 7) (a0 + 7) 3) (a1 + 8) (a0 + 8) 3) (a1 + 9) (a0 + 9) 3, ?_, ⟨rfl, rfl⟩, fun _ _ => rfl, fun a k ha => ?_, fun k hk => ?_, fun k hk => ?_, fun k hk => ?_, fun k hk => ?_, fun k hk => ?_, fun k hk => ?_, fun k hk => ?_, fun k hk => ?_, fun k hk => ?_, fun k hk => ?_⟩
  · have y : ∀ k, mI (uI s a0 0 (mI s a1 0)) a1 k = mI s a1 k := fun k => mI_ne _ _ (by omega)
    have z : ∀ (t : Sg) (k : Nat) (x : Int32) (j : Nat), mI (uI t a0 k x) a1 j = mI t a1 j := fun t k x j => mI_ne _ _ (by omega)
    unfold f_To_copyFrom
    refine ck_t A1 (ck_t A0 ?_)
    refine ck_t A1 (ck_t A0 ?_)
    refine ck_t A1 (ck_t A0 ?_)
    refine ck_t A1 (ck_t A0 ?_)
    refine ck_t A1 (ck_t A0 ?_)
    refine ck_t A1 (ck_t A0 ?_)
    simp only [z]
    refine ck_t A1 (ck_t (ur 0 (by decide)) (ck_t A0 (ck_t (pr 0 (by decide)) (ck_t ⟨by omega, (by omega : a1 + 1 < mN s), v1, by decide, by decide⟩ (ck_t ⟨by omega, (by omega : a0 + 1 < mN s), q1, by decide, by decide⟩ ?_)))))
    refine ck_t A1 (ck_t (ur 1 (by decide)) (ck_t A0 (ck_t (pr 1 (by decide)) (ck_t ⟨by omega, (by omega : a1 + 2 < mN s), v2, by decide, by decide⟩ (ck_t ⟨by omega, (by omega : a0 + 2 < mN s), q2, by decide, by decide⟩ ?_)))))
    refine ck_t A1 (ck_t (ur 2 (by decide)) (ck_t A0 (ck_t (pr 2 (by decide)) (ck_t ⟨by omega, (by omega : a1 + 3 < mN s), v3, by decide, by decide⟩ (ck_t ⟨by omega, (by omega : a0 + 3 < mN s), q3, by decide, by decide⟩ ?_)))))
    refine ck_t A1 (ck_t (ur 3 (by decide)) (ck_t A0 (ck_t (pr 3 (by decide)) (ck_t ⟨by omega, (by omega : a1 + 4 < mN s), v4, by decide, by decide⟩ (ck_t ⟨by omega, (by omega : a0 + 4 < mN s), q4, by decide, by decide⟩ ?_)))))
    refine ck_t A1 (ck_t (ur 4 (by decide)) (ck_t A0 (ck_t (pr 4 (by decide)) (ck_t ⟨by omega, (by omega : a1 + 5 < mN s), v5, by decide, by decide⟩ (ck_t ⟨by omega, (by omega : a0 + 5 < mN s), q5, by decide, by decide⟩ ?_)))))
    refine ck_t A1 (ck_t (ur 5 (by decide)) (ck_t A0 (ck_t (pr 5 (by decide)) (ck_t ⟨by omega, (by omega : a1 + 6 < mN s), v6, by decide, by decide⟩ (ck_t ⟨by omega, (by omega : a0 + 6 < mN s), q6, by decide, by decide⟩ ?_)))))
    refine ck_t A1 (ck_t (ur 6 (by decide)) (ck_t A0 (ck_t (pr 6 (by decide)) (ck_t ⟨by omega, (by omega : a1 + 7 < mN s), v7, by decide, by decide⟩ (ck_t ⟨by omega, (by omega : a0 + 7 < mN s), q7, by decide, by decide⟩ ?_)))))
    refine ck_t A1 (ck_t (ur 7 (by decide)) (ck_t A0 (ck_t (pr 7 (by decide)) (ck_t ⟨by omega, (by omega : a1 + 8 < mN s), v8, by decide, by decide⟩ (ck_t ⟨by omega, (by omega : a0 + 8 < mN s), q8, by decide, by decide⟩ ?_)))))
    refine ck_t A1 (ck_t (ur 8 (by decide)) (ck_t A0 (ck_t (pr 8 (by decide)) (ck_t ⟨by omega, (by omega : a1 + 9 < mN s), v9, by decide, by decide⟩ (ck_t ⟨by omega, (by omega : a0 + 9 < mN s), q9, by decide, by decide⟩ ?_)))))
    rfl
  · repeat rw [uC_ne _ _ _ _ (by omega)]
    repeat rw [mI_ne _ _ (by omega)]
  · repeat rw [uC_ne _ _ _ _ (by omega)]
    obtain rfl | rfl | rfl | rfl | rfl | rfl : k = 0 ∨ k = 1 ∨ k = 2 ∨ k = 3 ∨ k = 4 ∨ k = 5 := by omega
    all_goals
      repeat rw [mI_ne _ _ (by omega)]
      rw [mI_at]
  all_goals
    repeat rw [uC_ne _ _ _ _ (by omega)]
    rw [uC_at _ _ _ hk]
    repeat rw [uC_ne _ _ _ _ (by omega)]
    repeat rw [mI_ne _ _ (by omega)]
theorem TV_cp {W : Vw} {s' : Sg} {a0 a1 : Nat} {t : Sg} (hW : WV W) (h : TV W (vT t a1)) (c : (∀ k, k < 6 → mI s' a0 k = mI t a1 k) ∧ (∀ k, k < 4 → mI s' (a0 + 1) k = mI t (a1 + 1) k) ∧ (∀ k, k < 16 → mI s' (a0 + 2) k = mI t (a1 + 2) k) ∧ (∀ k, k < 8 → mI s' (a0 + 3) k = mI t (a1 + 3) k) ∧ (∀ k, k < 9 → mI s' (a0 + 4) k = mI t (a1 + 4) k) ∧ (∀ k, k < 1000 → mI s' (a0 + 5) k = mI t (a1 + 5) k) ∧
  (∀ k, k < 3 → mI s' (a0 + 6) k = mI t (a1 + 6) k) ∧ (∀ k, k < 3 → mI s' (a0 + 7) k = mI t (a1 + 7) k) ∧ (∀ k, k < 3 → mI s' (a0 + 8) k = mI t (a1 + 8) k) ∧ (∀ k, k < 3 → mI s' (a0 + 9) k = mI t (a1 + 9) k)) : TV W (vT s' a0) := by
  obtain ⟨c0, c1, c2, c3, c4, c5, c6, c7, c8, c9⟩ := c
  obtain ⟨⟨z0, z1, z2, z3, z4, z5⟩, b, d, e, f, g⟩ := h
  have hp4 : pN W ≤ 4 := hW.1.2
  have hk8 : kN W ≤ 8 := hW.2.2.1.2
  refine ⟨⟨(c0 0 (by decide)).trans z0, (c0 1 (by decide)).trans z1, (c0 2 (by decide)).trans z2, (c0 3 (by decide)).trans z3, (c0 4 (by decide)).trans z4, (c0 5 (by decide)).trans z5⟩, fun p hp => (c1 p (by omega)).trans (b p hp), fun k hk => (c2 k hk).trans (d k hk), fun l hl => (c3 l (by omega)).trans (e l hl), fun t' ht' => ?_, ?_⟩
  · obtain ⟨f1, f2, f3⟩ := f t' ht'
    refine ⟨(c6 t' ht').trans f1, (c7 t' ht').trans f2, ?_⟩
    rcases f3 with ⟨g1, g2⟩ | ⟨g1, g2, g3, g4⟩
    · exact Or.inl ⟨g1, (c9 t' ht').trans g2⟩
    · exact Or.inr ⟨g1, (c8 t' ht').trans g2, (c9 t' ht').trans g3, g4⟩
  · intro l hl q hq s1 hb h1 h2
    exact g l hl q hq s1 hb (fun k hk => (h1 k hk).trans (c4 k hk)) (fun k hk => (h2 k hk).trans (c5 k hk))
end
