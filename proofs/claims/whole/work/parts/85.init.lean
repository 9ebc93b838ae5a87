/-! a new object for what is told: the class -/
section
variable {s s0 : Sg}
/-- nothing is written but an object's own places -/
def FRa (a0 : Nat) (s s' : Sg) : Prop := mN s' = mN s ∧ s'.2.2.1 = s.2.2.1 ∧ ∀ a k, ¬ (a0 ≤ a ∧ a < a0 + 10) → mI s' a k = mI s a k ∧ mL s' a k = mL s a k
theorem FRa.trans {a0 : Nat} {s1 s2 s3 : Sg} (h : FRa a0 s1 s2) (k : FRa a0 s2 s3) : FRa a0 s1 s3 := ⟨k.1.trans h.1, k.2.1.trans h.2.1, fun a j ha => ⟨(k.2.2 a j ha).1.trans (h.2.2 a j ha).1, (k.2.2 a j ha).2.trans (h.2.2 a j ha).2⟩⟩
theorem fra_uI {a0 b k : Nat} (s : Sg) (x : Int32) (hb : a0 ≤ b ∧ b < a0 + 10) : FRa a0 s (uI s b k x) := ⟨rfl, rfl, fun a j ha => ⟨mI_ne _ _ (by omega), rfl⟩⟩
theorem k_clear_h {a0 : Nat} : ∀ (k x n : Nat) (s : Sg), OB s a0 → x + k = 3 → k < n → ∃ s', f_To_clear_h32 n a0 (nI x) s = some ((), s') ∧ FRa a0 s s' := by
  intro k
  induction k with
  | zero =>
    intro x n s hb hx hn
    obtain ⟨n, rfl⟩ : ∃ m, n = m + 1 := ⟨n - 1, by omega⟩
    obtain rfl : x = 3 := by omega
    exact ⟨s, rfl, rfl, rfl, fun _ _ _ => ⟨rfl, rfl⟩⟩
  | succ k ih =>
    intro x n s hb hx hn
    obtain ⟨n, rfl⟩ : ∃ m, n = m + 1 := ⟨n - 1, by omega⟩
    obtain ⟨s2, e2, f2⟩ := ih (x + 1) n (uI (uI (uI (uI s (a0 + 6) x 0) (a0 + 7) x 1) (a0 + 8) x 0) (a0 + 9) x 0) hb (by omega) (by omega)
    obtain ⟨⟨p1, p2⟩, pr, q0, q1, q2, q3, q4, q5, q6, q7, q8, q9⟩ := hb
    have A0 : zl_at s a0 2 := ⟨p1, by omega, q0, by decide⟩
    have iv : vp_in (nI x) 3 := vp_in_nI (by omega) (by decide)
    refine ⟨s2, ?_, ((((fra_uI s 0 (by omega)).trans (fra_uI _ 1 (by omega))).trans (fra_uI _ 0 (by omega))).trans (fra_uI _ 0 (by omega))).trans f2⟩
    show f_To_clear_b32 _ _ _ _ = _
    unfold f_To_clear_b32
    rw [if_neg (show ¬ (3 : Int32) ≤ nI x from nI_ge (b := 3) (by omega) (by decide)), nI_clamp (by omega), nI_1]
    refine ck_t A0 (ck_t (pr 5 (by decide)) (ck_t ⟨by omega, (by omega : a0 + 6 < mN s), q6, by decide, by decide⟩ (ck_t iv ?_)))
    refine ck_t A0 (ck_t (pr 6 (by decide)) (ck_t ⟨by omega, (by omega : a0 + 7 < mN s), q7, by decide, by decide⟩ (ck_t iv ?_)))
    refine ck_t A0 (ck_t (pr 7 (by decide)) (ck_t ⟨by omega, (by omega : a0 + 8 < mN s), q8, by decide, by decide⟩ (ck_t iv ?_)))
    refine ck_t A0 (ck_t (pr 8 (by decide)) (ck_t ⟨by omega, (by omega : a0 + 9 < mN s), q9, by decide, by decide⟩ (ck_t iv ?_)))
    exact e2
theorem k_clear {a0 : Nat} (hb : OB s a0) : ∃ s', f_To_clear a0 s = some ((), s') ∧ FRa a0 s s' := by
  obtain ⟨s2, e2, f2⟩ := k_clear_h 3 0 zl_fl (uI (uI (uI (uI (uI (uI s a0 0 0) a0 1 0) a0 2 0) a0 3 0) a0 4 0) a0 5 0) hb (by decide) (zl_fl_lt (by decide))
  obtain ⟨⟨p1, p2⟩, pr, q0, q1, q2, q3, q4, q5, q6, q7, q8, q9⟩ := hb
  have A0 : zl_at s a0 2 := ⟨p1, by omega, q0, by decide⟩
  refine ⟨s2, ?_, ((((((fra_uI s 0 (by omega)).trans (fra_uI _ 0 (by omega))).trans (fra_uI _ 0 (by omega))).trans (fra_uI _ 0 (by omega))).trans (fra_uI _ 0 (by omega))).trans (fra_uI _ 0 (by omega))).trans f2⟩
  unfold f_To_clear
  exact ck_t A0 (ck_t A0 (ck_t A0 (ck_t A0 (ck_t A0 (ck_t A0 e2)))))
/-- a new object, i of its arrays made -/
def Jn (s0 : Sg) (a0 i : Nat) (t : Sg) : Prop := mN t = a0 + 1 + i ∧ (∀ b, b < a0 → ∀ k, mI t b k = mI s0 b k ∧ mL t b k = mL s0 b k ∧ mR t b k = mR s0 b k) ∧ (∀ i', i' < i → mR t a0 (6 + i') = some (a0 + 1 + i'))
theorem mR_at (s : Sg) (a k : Nat) (x : Option Nat) : mR (uR s a k x) a k = x := zl_up_at _ _ _ _
theorem mR_ne (s : Sg) {a k b j : Nat} (x : Option Nat) (h : ¬ (b = a ∧ j = k)) : mR (uR s a k x) b j = mR s b j := zl_up_ne _ _ h
theorem Jn_0 {a0 : Nat} (h : mN s0 = a0) : Jn s0 a0 0 (uN s0) := ⟨by rw [← h]; rfl, fun b hb k => by
  have : b ≠ s0.2.2.2 := by intro e; rw [show s0.2.2.2 = a0 from h] at e; omega
  exact ⟨if_neg this, if_neg this, if_neg this⟩, fun i' hi' => absurd hi' (Nat.not_lt_zero _)⟩
theorem Jn_s {a0 i : Nat} {t : Sg} (h : Jn s0 a0 i t) : Jn s0 a0 (i + 1) (uR (uN t) a0 (6 + i) (some (mN t))) := by
  obtain ⟨h1, h2, h3⟩ := h
  have g : t.2.2.2 = a0 + 1 + i := h1
  refine ⟨?_, fun b hb k => ?_, fun i' hi' => ?_⟩
  · show t.2.2.2 + 1 = _
    omega
  · have nb : b ≠ t.2.2.2 := by omega
    refine ⟨Eq.trans (if_neg nb) (h2 b hb k).1, Eq.trans (if_neg nb) (h2 b hb k).2.1, ?_⟩
    rw [mR_ne _ _ (by omega)]
    exact Eq.trans (if_neg nb) (h2 b hb k).2.2
  · by_cases e : i' = i
    · rw [e, mR_at, h1]
    · rw [mR_ne _ _ (by omega)]
      exact Eq.trans (if_neg (show a0 ≠ t.2.2.2 by omega)) (h3 i' (by omega))
theorem k_init {j : Nat} (h : mN s0 = 81 + 10 * j) : ∃ s', f_To_init (81 + 10 * j) (uN s0) = some ((), s') ∧ mN s' = 81 + 10 * j + 10 ∧ (∀ b, b < 81 + 10 * j → ∀ k, mI s' b k = mI s0 b k ∧ mL s' b k = mL s0 b k ∧ mR s' b k = mR s0 b k) ∧ (∀ i, i < 9 → mR s' (81 + 10 * j) (6 + i) = some (81 + 10 * j + 1 + i)) := by
  have z0 : (zn_SH (81 + 10 * j)).1 = 2 := by
    rw [show 81 + 10 * j = 81 + 10 * j + 0 by omega, zn_tO j 0 (by decide)]; decide
  have zt : ∀ (i : Nat) (t : Sg), Jn s0 (81 + 10 * j) i t → zl_at (uN t) (81 + 10 * j) 2 := fun i t ht => ⟨by omega, by have : mN (uN t) = mN t + 1 := rfl; have := ht.1; omega, z0, by decide⟩
  have sh : ∀ (i : Nat) (t : Sg), Jn s0 (81 + 10 * j) i t → i < 9 → zn_SH (mN t) = zn_tol.getD (1 + i) (0, 0) := fun i t ht hi => by
    rw [ht.1, show 81 + 10 * j + 1 + i = 81 + 10 * j + (1 + i) by omega, zn_tO j _ (by omega)]
  have z9 : ∀ t : Sg, mN t = 81 + 10 * j + 1 + 9 → zl_at t (81 + 10 * j) 2 := fun t ht => ⟨by omega, by omega, z0, by decide⟩
  have J0 := Jn_0 (s0 := s0) h
  have J1 := Jn_s J0
  have J2 := Jn_s J1
  have J3 := Jn_s J2
  have J4 := Jn_s J3
  have J5 := Jn_s J4
  have J6 := Jn_s J5
  have J7 := Jn_s J6
  have J8 := Jn_s J7
  have J9 := Jn_s J8
  have hO := OB_j (j := j) (by have := J9.1; omega) J9.2.2
  obtain ⟨s9, e9, f9⟩ := k_clear hO
  refine ⟨s9, ?_, by rw [f9.1, J9.1], fun b hb k => ?_, fun i hi => ?_⟩
  · unfold f_To_init
    refine ck_t (sh 0 _ J0 (by decide)) (ck_t (zt 0 _ J0) ?_)
    refine ck_t (sh 1 _ J1 (by decide)) (ck_t (zt 1 _ J1) ?_)
    refine ck_t (sh 2 _ J2 (by decide)) (ck_t (zt 2 _ J2) ?_)
    refine ck_t (sh 3 _ J3 (by decide)) (ck_t (zt 3 _ J3) ?_)
    refine ck_t (sh 4 _ J4 (by decide)) (ck_t (zt 4 _ J4) ?_)
    refine ck_t (sh 5 _ J5 (by decide)) (ck_t (zt 5 _ J5) ?_)
    refine ck_t (sh 6 _ J6 (by decide)) (ck_t (zt 6 _ J6) ?_)
    refine ck_t (sh 7 _ J7 (by decide)) (ck_t (zt 7 _ J7) ?_)
    refine ck_t (sh 8 _ J8 (by decide)) (ck_t (zt 8 _ J8) ?_)
    refine ck_t (z9 _ J9.1) ?_
    exact (f_bd_of e9).trans rfl
  · have g1 := f9.2.2 b k (by omega)
    have g2 := J9.2.1 b hb k
    exact ⟨g1.1.trans g2.1, g1.2.trans g2.2.1, (congrFun (congrFun f9.2.1 b) k).trans g2.2.2⟩
  · exact (congrFun (congrFun f9.2.1 _) _).trans (J9.2.2 i hi)
end
