/-! mark: the class -/
section
variable {V : Vw} {s : Sg}
/-- the contents of a telling, beside another's -/
def CPc (s t : Sg) (a0 a1 : Nat) : Prop := (∀ k, k < 6 → mI s a0 k = mI t a1 k) ∧ (∀ k, k < 4 → mI s (a0 + 1) k = mI t (a1 + 1) k) ∧ (∀ k, k < 16 → mI s (a0 + 2) k = mI t (a1 + 2) k) ∧ (∀ k, k < 8 → mI s (a0 + 3) k = mI t (a1 + 3) k) ∧ (∀ k, k < 9 → mI s (a0 + 4) k = mI t (a1 + 4) k) ∧ (∀ k, k < 1000 → mI s (a0 + 5) k = mI t (a1 + 5) k) ∧
  (∀ k, k < 3 → mI s (a0 + 6) k = mI t (a1 + 6) k) ∧ (∀ k, k < 3 → mI s (a0 + 7) k = mI t (a1 + 7) k) ∧ (∀ k, k < 3 → mI s (a0 + 8) k = mI t (a1 + 8) k) ∧ (∀ k, k < 3 → mI s (a0 + 9) k = mI t (a1 + 9) k)
theorem CPc.l {s s2 t : Sg} {a0 : Nat} (h : CPc s t a0 7) (e : ∀ a k, 7 ≤ a → a < 17 → mI t a k = mI s2 a k) : CPc s s2 a0 7 := by
  obtain ⟨c0, c1, c2, c3, c4, c5, c6, c7, c8, c9⟩ := h
  exact ⟨fun k hk => (c0 k hk).trans (e _ _ (by omega) (by omega)), fun k hk => (c1 k hk).trans (e _ _ (by omega) (by omega)), fun k hk => (c2 k hk).trans (e _ _ (by omega) (by omega)), fun k hk => (c3 k hk).trans (e _ _ (by omega) (by omega)), fun k hk => (c4 k hk).trans (e _ _ (by omega) (by omega)), fun k hk => (c5 k hk).trans (e _ _ (by omega) (by omega)), fun k hk => (c6 k hk).trans (e _ _ (by omega) (by omega)), fun k hk => (c7 k hk).trans (e _ _ (by omega) (by omega)), fun k hk => (c8 k hk).trans (e _ _ (by omega) (by omega)), fun k hk => (c9 k hk).trans (e _ _ (by omega) (by omega))⟩
/-- a mark is laid -/
def LY (s s' : Sg) (m : Nat) : Prop := zl_B s' ∧ (∀ b, b < 81 → ∀ k, mI s' b k = mI s b k ∧ mL s' b k = mL s b k) ∧ (∃ j', mN s' = 81 + 10 * j') ∧ mN s ≤ mN s' ∧
  ∃ j, mR s' 41 m = some (81 + 10 * j) ∧ 81 + 10 * j + 10 ≤ mN s' ∧ (∀ i, i < 9 → mR s' (81 + 10 * j) (6 + i) = some (81 + 10 * j + 1 + i)) ∧ CPc s' s (81 + 10 * j) 7 ∧
    (∀ m', m' < 4 → m' ≠ m → mR s' 41 m' = mR s 41 m' ∧ mR s 41 m' ≠ some (81 + 10 * j)) ∧
    (∀ j2, j2 ≠ j → 81 + 10 * j2 + 10 ≤ mN s → (∀ i, i < 10 → ∀ k, mI s' (81 + 10 * j2 + i) k = mI s (81 + 10 * j2 + i) k) ∧ ∀ k, mR s' (81 + 10 * j2) k = mR s (81 + 10 * j2) k)
theorem k_lay {m : Nat} (hb : zl_B s) (hK : RK V s) (hm : m < 4) : ∃ s', f_Wk_mark (nI m) 0 s = some (1, s') ∧ LY s s' m := by
  obtain ⟨h1, h2, jn, hn⟩ := hK
  have iv : vp_in (nI m) 4 := vp_in_nI hm (by decide)
  have hw : wi (nI m) 0 3 = true := by
    have : m = 0 ∨ m = 1 ∨ m = 2 ∨ m = 3 := by omega
    rcases this with rfl | rfl | rfl | rfl <;> decide
  unfold f_Wk_mark
  rw [f_bd_of (k_isWithin (s := s) (nI m) 3), hw, if_pos rfl, if_neg (show ¬ (1 : Int32) = 0 by decide), f_ck_of hb, f_ck_of iv, nI_clamp (by omega)]
  have hfr : zn_FR 41 m = none := by
    have : m = 0 ∨ m = 1 ∨ m = 2 ∨ m = 3 := by omega
    rcases this with rfl | rfl | rfl | rfl <;> rfl
  by_cases c : mR s 41 m = none
  · rw [c]
    obtain ⟨s1, e1, n1, f1, r1⟩ := k_init (s0 := s) hn
    have b1 : zl_B s1 := ⟨by omega, fun a j b ha hz => ((f1 a (by omega) j).2.2).trans (hb.2 a j b ha hz)⟩
    have r2 : ∀ b k, ¬ (b = 41 ∧ k = m) → mR (uR s1 41 m (some (81 + 10 * jn))) b k = mR s1 b k := fun b k hk => mR_ne _ _ hk
    have b2 : zl_B (uR s1 41 m (some (81 + 10 * jn))) := ⟨b1.1, fun a j b ha hz => by
      by_cases e : a = 41 ∧ j = m
      · rw [e.1, e.2, hfr] at hz; cases hz
      · exact (r2 a j e).trans (b1.2 a j b ha hz)⟩
    have o2 : OB (uR s1 41 m (some (81 + 10 * jn))) (81 + 10 * jn) := OB_j (by show _ ≤ mN s1; omega) (fun i hi => (r2 _ _ (by omega)).trans (r1 i hi))
    obtain ⟨s3, e3, ⟨d1, d2⟩, d3, d4, d5⟩ := k_copyFrom o2 (OB_7 b2) (by omega)
    have z0 : (zn_SH (81 + 10 * jn)).1 = 2 := o2.2.2.1
    have hmR : ∀ b k, mR s3 b k = mR (uR s1 41 m (some (81 + 10 * jn))) b k := fun b k => congrFun (congrFun d2 b) k
    have h81 : ∀ b, b < 81 → ∀ k, mI s3 b k = mI s b k ∧ mL s3 b k = mL s b k := fun b hb' k => ⟨(d4 b k (by omega)).trans ((f1 b (by omega) k).1), (d3 b k).trans ((f1 b (by omega) k).2.1)⟩
    refine ⟨s3, ?_, ⟨by rw [d1]; exact b2.1, by rw [d2]; exact b2.2⟩, h81, ⟨jn + 1, ?_⟩, ?_, jn, ?_, ?_, fun i hi => ?_, ?_, fun m' hm' hne => ⟨?_, fun e => ?_⟩, fun j2 hj2 hle => ⟨fun i hi k => ?_, fun k => ?_⟩⟩
    · show f_ck _ _ = _
      refine ck_t (show (zn_SH (mN s)).1 = 2 by rw [hn]; exact z0) ?_
      rw [hn]
      refine (f_bd_of e1).trans ?_
      refine ck_t b1 (ck_t iv (ck_t ⟨by omega, by omega, z0, by decide⟩ ?_))
      show f_Wk_mark_b60 (81 + 10 * jn) (uR s1 41 m (some (81 + 10 * jn))) = _
      unfold f_Wk_mark_b60
      refine ck_t b2 (ck_t ⟨by omega, (by omega : 81 + 10 * jn < mN s1), z0, by decide⟩ ?_)
      exact (f_bd_of e3).trans rfl
    · rw [d1]; show mN s1 = _; omega
    · rw [d1]; show _ ≤ mN s1; omega
    · rw [hmR]; exact mR_at _ _ _ _
    · rw [d1]; show _ ≤ mN s1; omega
    · rw [hmR, r2 _ _ (by omega)]; exact r1 i hi
    · exact CPc.l d5 (fun a k q1 q2 => (f1 a (by omega) k).1)
    · rw [hmR, r2 _ _ (by omega)]; exact (f1 41 (by omega) m').2.2
    · rcases h1 m' hm' with ⟨_, q⟩ | ⟨_, _, j, q, q2, _⟩
      · rw [q] at e; cases e
      · rw [q] at e
        have := Option.some.inj e
        omega
    · exact (d4 _ _ (by omega)).trans ((f1 _ (by omega) k).1)
    · rw [hmR, r2 _ _ (by omega)]; exact (f1 _ (by omega) k).2.2
  · rcases h1 m hm with ⟨_, q⟩ | ⟨_, _, j, q, q2, q3, _⟩
    · exact absurd q c
    · rw [q]
      have o2 : OB s (81 + 10 * j) := OB_j q2 q3
      obtain ⟨s3, e3, ⟨d1, d2⟩, d3, d4, d5⟩ := k_copyFrom o2 (OB_7 hb) (by omega)
      have hmR : ∀ b k, mR s3 b k = mR s b k := fun b k => congrFun (congrFun d2 b) k
      refine ⟨s3, ?_, ⟨by rw [d1]; exact hb.1, by rw [d2]; exact hb.2⟩, fun b hb' k => ⟨d4 b k (by omega), d3 b k⟩, ⟨jn, by rw [d1]; exact hn⟩, by rw [d1]; exact Nat.le_refl _, j, by rw [hmR]; exact q, by rw [d1]; exact q2, fun i hi => by rw [hmR]; exact q3 i hi, d5, fun m' hm' hne => ⟨hmR _ _, fun e => h2 m m' _ hm hm' (Ne.symm hne) q e⟩, fun j2 hj2 hle => ⟨fun i hi k => d4 _ _ (by omega), fun k => hmR _ _⟩⟩
      simp only [f_mt]
      rw [if_pos trivial]
      unfold f_Wk_mark_b60
      refine ck_t hb (ck_t ⟨by omega, by omega, o2.2.2.1, by decide⟩ ?_)
      exact (f_bd_of e3).trans rfl
theorem k_back {m : Nat} {x2 : Int32} (hx : ¬ x2 = 0) (hb : zl_B s) (hK : RK V s) (hm : m < 4) :
    (V 76 m = 0 ∧ f_Wk_mark (nI m) x2 s = some (0, s)) ∨
    (V 76 m = 1 ∧ ∃ s' j, f_Wk_mark (nI m) x2 s = some (1, s') ∧ zl_B s' ∧ mR s 41 m = some (81 + 10 * j) ∧ CPc s' s 7 (81 + 10 * j) ∧ mN s' = mN s ∧ s'.2.2.1 = s.2.2.1 ∧ (∀ a k, ¬ (7 ≤ a ∧ a < 17) → a ≠ 45 → ¬ (a = 6 ∧ k = 5) → mI s' a k = mI s a k) ∧ (∀ a k, a ≠ 45 → mL s' a k = mL s a k) ∧ mI s' 6 5 = mI s 6 5 + 1 ∧ (∀ j, j < 216 → mI s' 45 j = 1073741824)) := by
  obtain ⟨h1, h2, jn, hn⟩ := hK
  have iv : vp_in (nI m) 4 := vp_in_nI hm (by decide)
  have hw : wi (nI m) 0 3 = true := by
    have : m = 0 ∨ m = 1 ∨ m = 2 ∨ m = 3 := by omega
    rcases this with rfl | rfl | rfl | rfl <;> decide
  unfold f_Wk_mark
  rw [f_bd_of (k_isWithin (s := s) (nI m) 3), hw, if_pos rfl, if_neg (show ¬ (1 : Int32) = 0 by decide), f_ck_of hb, f_ck_of iv, nI_clamp (by omega)]
  rcases h1 m hm with ⟨z, q⟩ | ⟨z, _, j, q, q2, q3, _⟩
  · left
    rw [q]
    refine ⟨z, ?_⟩
    simp only [f_mt]
    rw [if_neg hx]
  · right
    rw [q]
    have o2 : OB s (81 + 10 * j) := OB_j q2 q3
    obtain ⟨s3, e3, ⟨d1, d2⟩, d3, d4, d5⟩ := k_copyFrom (OB_7 hb) o2 (by omega)
    have b3 : zl_B s3 := ⟨by rw [d1]; exact hb.1, by rw [d2]; exact hb.2⟩
    obtain ⟨s4, e4, ⟨f1, f2, f3⟩, g4⟩ := k_forgetPlain b3
    have b4 : zl_B s4 := ⟨by rw [f1]; exact b3.1, by rw [f2]; exact b3.2⟩
    have e65 : mI s4 6 5 = mI s 6 5 := ((f3 6 5 (by decide)).1).trans (d4 6 5 (by omega))
    have h4 : ∀ a k, a ≠ 45 → ¬ (a = 6 ∧ k = 5) → mI (uI s4 6 5 (mI s4 6 5 + 1)) a k = mI s3 a k := fun a k ha hk => (mI_ne _ _ hk).trans ((f3 a k ha).1)
    refine ⟨z, uI s4 6 5 (mI s4 6 5 + 1), j, ?_, b4, rfl, ?_, ?_, ?_, fun a k ha ha45 ha65 => (h4 a k ha45 ha65).trans (d4 a k (by omega)), fun a k ha => ((f3 a k ha).2).trans (d3 a k), ?_, fun j hj => (mI_ne _ _ (by omega)).trans (g4 j hj)⟩
    · simp only [f_mt]
      rw [if_neg hx]
      refine (f_bd_of e3).trans ?_
      refine ck_t b3 ?_
      have e5 : f_Wk_forgetAll s3 = some ((), uI s4 6 5 (mI s4 6 5 + 1)) := by
        unfold f_Wk_forgetAll
        refine ck_t b3 ((f_bd_of e4).trans (ck_t b4 ?_))
        unfold f_Wo_forget
        exact (f_bd_of (f_ck_of b4)).trans rfl
      exact (f_bd_of e5).trans rfl
    · obtain ⟨c0, c1, c2, c3, c4, c5, c6, c7, c8, c9⟩ := d5
      exact ⟨fun k hk => (h4 7 _ (by omega) (by omega)).trans (c0 k hk), fun k hk => (h4 8 _ (by omega) (by omega)).trans (c1 k hk), fun k hk => (h4 9 _ (by omega) (by omega)).trans (c2 k hk), fun k hk => (h4 10 _ (by omega) (by omega)).trans (c3 k hk), fun k hk => (h4 11 _ (by omega) (by omega)).trans (c4 k hk), fun k hk => (h4 12 _ (by omega) (by omega)).trans (c5 k hk), fun k hk => (h4 13 _ (by omega) (by omega)).trans (c6 k hk), fun k hk => (h4 14 _ (by omega) (by omega)).trans (c7 k hk), fun k hk => (h4 15 _ (by omega) (by omega)).trans (c8 k hk), fun k hk => (h4 16 _ (by omega) (by omega)).trans (c9 k hk)⟩
    · show mN s4 = _; rw [f1, d1]
    · show s4.2.2.1 = _; rw [f2, d2]
    · rw [mI_at, e65]
end
