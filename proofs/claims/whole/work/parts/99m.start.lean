/-! the constructors: where class and model begin -/
section
variable {L : Nat} {xs : Nat → Int32} {m t : Nat} {rs : List (Nat × Nat × Nat)} {s s' : Sg}
/-- the ints, as stages of the making give them -/
def gC (L : Nat) (xs : Nat → Int32) (t a k : Nat) : Int32 := if a = 0 then (if k = 4000 then nI L else xs k) else if a = 1 then zs_or k else if a = 3 then zs_by k else if a = 14 ∧ k < 3 ∧ 1 ≤ t then 1 else if a = 6 ∧ k = 5 ∧ 2 ≤ t then 1 else if a = 6 ∧ k = 6 ∧ 2 ≤ t then -1 else if a = 6 ∧ k = 7 ∧ 2 ≤ t then 10 else if a = 38 ∧ k < 3 ∧ 3 ≤ t then 1 else if a = 45 ∧ k < 216 ∧ 4 ≤ t then 1073741824 else if a = 70 ∧ k < 3 ∧ 5 ≤ t then 1 else 0
theorem gC_z {a k : Nat} (h : 4 ≤ a) (h1 : ¬ (a = 14 ∧ k < 3 ∧ 1 ≤ t)) (h2 : ¬ (a = 6 ∧ 5 ≤ k ∧ k ≤ 7 ∧ 2 ≤ t)) (h3 : ¬ (a = 38 ∧ k < 3 ∧ 3 ≤ t)) (h4 : ¬ (a = 45 ∧ k < 216 ∧ 4 ≤ t)) (h5 : ¬ (a = 70 ∧ k < 3 ∧ 5 ≤ t)) : gC L xs t a k = 0 := by
  unfold gC
  rw [if_neg (by omega), if_neg (by omega), if_neg (by omega), if_neg h1, if_neg (by omega), if_neg (by omega), if_neg (by omega), if_neg h3, if_neg h4, if_neg h5]
/-- .. and the references -/
def lk : List (Nat × Nat × Nat) → Nat → Nat → Option Nat
  | [], _, _ => none
  | (a, j, x) :: l, b, k => if b = a ∧ k = j then some x else lk l b k
theorem lk_no {m : Nat} : ∀ {rs : List (Nat × Nat × Nat)}, (rs.all fun e => e.1 != m) = true → ∀ k, lk rs m k = none := by
  intro rs
  induction rs with
  | nil => intro _ k; rfl
  | cons e l ih =>
    intro h k
    obtain ⟨a, j, x⟩ := e
    simp only [List.all_cons, Bool.and_eq_true, bne_iff_ne, ne_eq] at h
    show (if m = a ∧ k = j then some x else lk l m k) = none
    rw [if_neg (fun q => h.1 q.1.symm)]
    exact ih h.2 k
def Cn (L : Nat) (xs : Nat → Int32) (m : Nat) (rs : List (Nat × Nat × Nat)) (t : Nat) (s : Sg) : Prop := mN s = m ∧ (∀ a j, mR s a j = lk rs a j) ∧ (∀ a k, mI s a k = gC L xs t a k) ∧ (∀ a k, mL s a k = 0)
/-- what is new is empty -/
def gZ (t m : Nat) : Bool := decide (4 ≤ m) && !(decide (m = 14) && decide (1 ≤ t)) && !(decide (m = 6) && decide (2 ≤ t)) && !(decide (m = 38) && decide (3 ≤ t)) && !(decide (m = 45) && decide (4 ≤ t)) && !(decide (m = 70) && decide (5 ≤ t))
theorem gZ_z (h : gZ t m = true) (k : Nat) : gC L xs t m k = 0 := by
  simp only [gZ, Bool.and_eq_true, Bool.not_eq_true', Bool.and_eq_false_iff, decide_eq_true_eq, decide_eq_false_iff_not] at h
  exact gC_z (by omega) (by omega) (by omega) (by omega) (by omega) (by omega)
theorem cn_new (h : Cn L xs m rs t s) (hr : (rs.all fun e => e.1 != m) = true) (hz : gZ t m = true) : Cn L xs (m + 1) rs t (uN s) := by
  obtain ⟨h1, h2, h3, h4⟩ := h
  refine ⟨?_, fun a j => ?_, fun a k => ?_, fun a k => ?_⟩
  · show mN s + 1 = m + 1
    rw [h1]
  · show (if a = mN s then none else mR s a j) = _
    rw [h1]
    by_cases c : a = m
    · rw [if_pos c, c, lk_no hr]
    · rw [if_neg c]; exact h2 a j
  · show (if a = mN s then 0 else mI s a k) = _
    rw [h1]
    by_cases c : a = m
    · rw [if_pos c, c, gZ_z hz]
    · rw [if_neg c]; exact h3 a k
  · show (if a = mN s then 0 else mL s a k) = 0
    by_cases c : a = mN s
    · rw [if_pos c]
    · rw [if_neg c]; exact h4 a k
theorem cn_ref (h : Cn L xs m rs t s) (a j x : Nat) : Cn L xs m ((a, j, x) :: rs) t (uR s a j (some x)) := by
  obtain ⟨h1, h2, h3, h4⟩ := h
  refine ⟨h1, fun b k => ?_, h3, h4⟩
  show zl_up s.2.2.1 a j (some x) b k = if b = a ∧ k = j then some x else lk rs b k
  by_cases c : b = a ∧ k = j
  · rw [if_pos c, c.1, c.2]; exact zl_up_at _ _ _ _
  · rw [if_neg c, zl_up_ne _ _ c]; exact h2 b k
/-- arrays are made one by one and laid into an object -/
noncomputable def mkA (a0 kd : Nat) : List (Nat × Nat × Nat) → Sg → (Sg → Option (Unit × Sg)) → Option (Unit × Sg)
  | [], s, K => K s
  | (j, sh) :: l, s, K => f_ck (zn_SH (mN s) = sh) (f_ck (zl_at (uN s) a0 kd) (mkA a0 kd l (uR (uN s) a0 j (some (mN s))) K))
def mkR (a0 : Nat) : List (Nat × Nat × Nat) → Nat → List (Nat × Nat × Nat) → List (Nat × Nat × Nat)
  | [], _, rs => rs
  | (j, _) :: l, m, rs => mkR a0 l (m + 1) ((a0, j, m) :: rs)
def mkC (a0 kd t : Nat) : List (Nat × Nat × Nat) → Nat → List (Nat × Nat × Nat) → Bool
  | [], _, _ => true
  | (j, sh) :: l, m, rs => decide (zn_SH m = sh) && decide (a0 < m) && (rs.all fun e => e.1 != m) && gZ t m && mkC a0 kd t l (m + 1) ((a0, j, m) :: rs)
theorem mkA_go {a0 kd : Nat} (h0 : (decide (4 ≤ a0) && decide ((zn_SH a0).1 = kd) && decide (kd < 7)) = true) {K : Sg → Option (Unit × Sg)} : ∀ (l : List (Nat × Nat × Nat)) (m : Nat) (rs : List (Nat × Nat × Nat)) (s : Sg), Cn L xs m rs t s → mkC a0 kd t l m rs = true → ∃ s', Cn L xs (m + l.length) (mkR a0 l m rs) t s' ∧ mkA a0 kd l s K = K s' := by
  simp only [Bool.and_eq_true, decide_eq_true_eq] at h0
  intro l
  induction l with
  | nil => intro m rs s h _; exact ⟨s, h, rfl⟩
  | cons e l ih =>
    intro m rs s h hc
    obtain ⟨j, sh⟩ := e
    have hc' : (decide (zn_SH m = sh) && decide (a0 < m) && (rs.all fun e => e.1 != m) && gZ t m && mkC a0 kd t l (m + 1) ((a0, j, m) :: rs)) = true := hc
    simp only [Bool.and_eq_true, decide_eq_true_eq] at hc'
    obtain ⟨⟨⟨⟨c1, c2⟩, c3⟩, c4⟩, c5⟩ := hc'
    have h1 := cn_ref (cn_new h c3 c4) a0 j m
    obtain ⟨s2, q2, e2⟩ := ih (m + 1) _ _ h1 c5
    refine ⟨s2, ?_, ?_⟩
    · rw [show m + (((j, sh) :: l).length) = m + 1 + l.length by rw [List.length_cons]; omega]
      exact q2
    · show f_ck (zn_SH (mN s) = sh) (f_ck (zl_at (uN s) a0 kd) (mkA a0 kd l (uR (uN s) a0 j (some (mN s))) K)) = _
      rw [f_ck_of (show zn_SH (mN s) = sh by rw [h.1]; exact c1), f_ck_of (show zl_at (uN s) a0 kd from ⟨h0.1.1, by show a0 < mN s + 1; rw [h.1]; omega, h0.1.2, h0.2⟩), h.1]
      exact e2
/-- a telling is made empty -/
theorem c_clr_h {a0 : Nat} : ∀ (k x F : Nat) (s : Sg), OB s a0 → x + k = 3 → k < F → ∃ s', f_To_clear_h32 F a0 (nI x) s = some ((), s') ∧ FR (fun a j => (a0 + 6 ≤ a ∧ a ≤ a0 + 9) ∧ x ≤ j ∧ j < 3) NoL s s' ∧ (∀ j, x ≤ j → j < 3 → mI s' (a0 + 6) j = 0 ∧ mI s' (a0 + 7) j = 1 ∧ mI s' (a0 + 8) j = 0 ∧ mI s' (a0 + 9) j = 0) := by
  intro k
  induction k with
  | zero =>
    intro x F s hb hx hF
    obtain ⟨F, rfl⟩ : ∃ m, F = m + 1 := ⟨F - 1, by omega⟩
    obtain rfl : x = 3 := by omega
    exact ⟨s, rfl, FR.rf _ _ _, fun j h1 h2 => absurd h1 (by omega)⟩
  | succ k ih =>
    intro x F s hb hx hF
    obtain ⟨F, rfl⟩ : ∃ m, F = m + 1 := ⟨F - 1, by omega⟩
    obtain ⟨s2, e2, f2, v2⟩ := ih (x + 1) F (uI (uI (uI (uI s (a0 + 6) x 0) (a0 + 7) x 1) (a0 + 8) x 0) (a0 + 9) x 0) hb (by omega) (by omega)
    obtain ⟨⟨p1, p2⟩, pr, q0, q1, q2, q3, q4, q5, q6, q7, q8, q9⟩ := hb
    have A0 : zl_at s a0 2 := ⟨p1, by omega, q0, by decide⟩
    have iv : vp_in (nI x) 3 := vp_in_nI (by omega) (by decide)
    have z0 : ∀ a, mI s2 a x = mI (uI (uI (uI (uI s (a0 + 6) x 0) (a0 + 7) x 1) (a0 + 8) x 0) (a0 + 9) x 0) a x := fun a => f2.2.1 a x (fun q => by have q' : (a0 + 6 ≤ a ∧ a ≤ a0 + 9) ∧ x + 1 ≤ x ∧ x < 3 := q; omega)
    have f1 : FR (fun a j => (a0 + 6 ≤ a ∧ a ≤ a0 + 9) ∧ x ≤ j ∧ j < 3) NoL s (uI (uI (uI (uI s (a0 + 6) x 0) (a0 + 7) x 1) (a0 + 8) x 0) (a0 + 9) x 0) := (((fr_uI s _ ⟨⟨by omega, by omega⟩, by omega, by omega⟩).tr (fr_uI _ _ ⟨⟨by omega, by omega⟩, by omega, by omega⟩)).tr (fr_uI _ _ ⟨⟨by omega, by omega⟩, by omega, by omega⟩)).tr (fr_uI _ _ ⟨⟨by omega, by omega⟩, by omega, by omega⟩)
    refine ⟨s2, ?_, f1.tr (f2.mo (fun a j g => by have q' : (a0 + 6 ≤ a ∧ a ≤ a0 + 9) ∧ x + 1 ≤ j ∧ j < 3 := g; exact ⟨q'.1, by omega, q'.2.2⟩) (fun _ _ g => g)), fun j h1 h2 => ?_⟩
    · show f_To_clear_b32 _ _ _ _ = _
      unfold f_To_clear_b32
      rw [if_neg (show ¬ (3 : Int32) ≤ nI x from nI_ge (b := 3) (by omega) (by decide)), nI_clamp (by omega), nI_1]
      refine ck_t A0 (ck_t (pr 5 (by decide)) (ck_t ⟨by omega, (by omega : a0 + 6 < mN s), q6, by decide, by decide⟩ (ck_t iv ?_)))
      refine ck_t A0 (ck_t (pr 6 (by decide)) (ck_t ⟨by omega, (by omega : a0 + 7 < mN s), q7, by decide, by decide⟩ (ck_t iv ?_)))
      refine ck_t A0 (ck_t (pr 7 (by decide)) (ck_t ⟨by omega, (by omega : a0 + 8 < mN s), q8, by decide, by decide⟩ (ck_t iv ?_)))
      refine ck_t A0 (ck_t (pr 8 (by decide)) (ck_t ⟨by omega, (by omega : a0 + 9 < mN s), q9, by decide, by decide⟩ (ck_t iv ?_)))
      exact e2
    · by_cases ej : j = x
      · rw [ej, z0, z0, z0, z0]
        refine ⟨?_, ?_, ?_, mI_at _ _ _ _⟩
        · rw [mI_ne _ _ (by omega), mI_ne _ _ (by omega), mI_ne _ _ (by omega)]; exact mI_at _ _ _ _
        · rw [mI_ne _ _ (by omega), mI_ne _ _ (by omega)]; exact mI_at _ _ _ _
        · rw [mI_ne _ _ (by omega)]; exact mI_at _ _ _ _
      · exact v2 j (by omega) h2
/-- the telling's arrays -/
def toL : List (Nat × Nat × Nat) := [(6, 10, 4), (7, 10, 16), (8, 10, 8), (9, 10, 9), (10, 10, 1000), (11, 10, 3), (12, 10, 3), (13, 10, 3), (14, 10, 3)]
theorem c_To {a0 : Nat} (h : Cn L xs (a0 + 1) rs t s) (h0 : (decide (4 ≤ a0) && decide ((zn_SH a0).1 = 2) && decide (2 < 7)) = true) (hc : mkC a0 2 t toL (a0 + 1) rs = true)
    (hrf : ∀ i, i < 9 → lk (mkR a0 toL (a0 + 1) rs) a0 (6 + i) = some (a0 + 1 + i)) (hsh : (zn_SH a0).1 = 2 ∧ zn_SH (a0 + 1) = (10, 4) ∧ zn_SH (a0 + 2) = (10, 16) ∧ zn_SH (a0 + 3) = (10, 8) ∧ zn_SH (a0 + 4) = (10, 9) ∧ zn_SH (a0 + 5) = (10, 1000) ∧ zn_SH (a0 + 6) = (10, 3) ∧ zn_SH (a0 + 7) = (10, 3) ∧ zn_SH (a0 + 8) = (10, 3) ∧ zn_SH (a0 + 9) = (10, 3))
    (h4 : 4 ≤ a0) {t' : Nat} (hg : ∀ a k, gC L xs t' a k = if (a = a0 ∧ k < 6) ∨ ((a = a0 + 6 ∨ a = a0 + 8 ∨ a = a0 + 9) ∧ k < 3) then 0 else if a = a0 + 7 ∧ k < 3 then 1 else gC L xs t a k) : ∃ s', f_To_init a0 s = some ((), s') ∧ Cn L xs (a0 + 10) (mkR a0 toL (a0 + 1) rs) t' s' := by
  obtain ⟨s1, c1, e1⟩ := mkA_go h0 (K := fun s45 => f_ck (zl_at s45 a0 2) (f_bd (f_To_clear a0 s45) fun r47 s48 => some ((), s48))) toL _ _ s h hc
  have e0 : f_To_init a0 s = mkA a0 2 toL s (fun s45 => f_ck (zl_at s45 a0 2) (f_bd (f_To_clear a0 s45) fun r47 s48 => some ((), s48))) := rfl
  have n1 : mN s1 = a0 + 10 := c1.1
  have ob : OB s1 a0 := ⟨⟨h4, by omega⟩, fun i hi => (c1.2.1 _ _).trans (hrf i hi), hsh⟩
  have A0 : zl_at s1 a0 2 := ⟨h4, by omega, hsh.1, by decide⟩
  obtain ⟨s2, e2, f2, v2⟩ := c_clr_h 3 0 zl_fl (uI (uI (uI (uI (uI (uI s1 a0 0 0) a0 1 0) a0 2 0) a0 3 0) a0 4 0) a0 5 0) ob (by decide) (zl_fl_lt (by decide))
  refine ⟨s2, ?_, ?_, fun a j => ?_, fun a k => ?_, fun a k => ?_⟩
  · rw [e0, e1, f_ck_of A0]
    have ec : f_To_clear a0 s1 = some ((), s2) := by
      unfold f_To_clear
      exact ck_t A0 (ck_t A0 (ck_t A0 (ck_t A0 (ck_t A0 (ck_t A0 e2)))))
    rw [f_bd_of ec]
  · exact f2.1.1.trans n1
  · exact (f2.r a j).trans (c1.2.1 a j)
  · rw [hg]
    by_cases q6 : (a0 + 6 ≤ a ∧ a ≤ a0 + 9) ∧ k < 3
    · obtain ⟨w6, w7, w8, w9⟩ := v2 k (Nat.zero_le _) q6.2
      have hc4 : a = a0 + 6 ∨ a = a0 + 7 ∨ a = a0 + 8 ∨ a = a0 + 9 := by omega
      rcases hc4 with e | e | e | e
      · rw [if_pos (by omega), e]; exact w6
      · rw [if_neg (by omega), if_pos (by omega), e]; exact w7
      · rw [if_pos (by omega), e]; exact w8
      · rw [if_pos (by omega), e]; exact w9
    · have hz : mI s2 a k = mI (uI (uI (uI (uI (uI (uI s1 a0 0 0) a0 1 0) a0 2 0) a0 3 0) a0 4 0) a0 5 0) a k := f2.2.1 a k (fun q => by have q' : (a0 + 6 ≤ a ∧ a ≤ a0 + 9) ∧ 0 ≤ k ∧ k < 3 := q; omega)
      rw [hz]
      by_cases q0 : a = a0 ∧ k < 6
      · rw [if_pos (Or.inl q0), q0.1]
        have hk := q0.2
        obtain rfl | rfl | rfl | rfl | rfl | rfl : k = 0 ∨ k = 1 ∨ k = 2 ∨ k = 3 ∨ k = 4 ∨ k = 5 := by omega
        all_goals
          repeat rw [mI_ne _ _ (by omega)]
          rw [mI_at]
      · rw [if_neg (by omega), if_neg (by omega), mI_ne _ _ (by omega), mI_ne _ _ (by omega), mI_ne _ _ (by omega), mI_ne _ _ (by omega), mI_ne _ _ (by omega), mI_ne _ _ (by omega)]
        exact c1.2.2.1 a k
  · exact (f2.2.2 a k (fun q => q)).trans (c1.2.2.2 a k)
end
