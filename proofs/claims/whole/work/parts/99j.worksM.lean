/-! works: what the model keeps of a text -/
section
variable {s s' s1 s2 : Sg} {z : Ps}
theorem w_names : ∀ (k x F : Nat) (s : Sg), zl_B s → x + k = 7 → k < F → ∃ s', f_Mo_works_h43 F (nI x) s = f_Mo_works_b70 s' ∧ FR NoL (fun a _ => a = 48) s s' := by
  intro k
  induction k with
  | zero =>
    intro x F s hb hx hF
    obtain ⟨F, rfl⟩ : ∃ g, F = g + 1 := ⟨F - 1, by omega⟩
    refine ⟨s, ?_, FR.rf _ _ _⟩
    show f_Mo_works_b43 (f_Mo_works_h43 F) (nI x) s = _
    unfold f_Mo_works_b43
    rw [if_pos (show (7 : Int32) ≤ nI x from nI_le (a := 7) (by omega) (by omega))]
  | succ k ih =>
    intro x F s hb hx hF
    obtain ⟨F, rfl⟩ : ∃ g, F = g + 1 := ⟨F - 1, by omega⟩
    obtain ⟨s2, e2, f2⟩ := ih (x + 1) F (uL s 48 x (mL s 48 (7 + x))) hb (by omega) (by omega)
    have f1 : FR NoL (fun a _ => a = 48) s (uL s 48 x (mL s 48 (7 + x))) := fr_uL s _ rfl
    refine ⟨s2, ?_, f1.tr f2⟩
    show f_Mo_works_b43 (f_Mo_works_h43 F) (nI x) s = _
    unfold f_Mo_works_b43
    have e7 : (7 : Int32) + nI x = nI (7 + x) := nI_add 7 x
    rw [if_neg (show ¬ (7 : Int32) ≤ nI x from nI_ge (b := 7) (by omega) (by decide)), f_ck_of hb, e7, f_ck_of (vp_in_nI (by omega) (by decide)), f_ck_of (vp_in_nI (by omega) (by decide)), nI_clamp (by omega), nI_clamp (by omega), nI_1]
    exact e2
def cpF (p x a k : Nat) : Prop := a = 50 ∧ 4 * p + x ≤ k ∧ k < 4 * p + 4
theorem w_costs {p : Nat} (hp : p < 4) (R : Int32 → Sg → Option (Int32 × Sg)) : ∀ (k x F : Nat) (s : Sg), zl_B s → x + k = 4 → k < F → ∃ s', f_Mo_works_h93 R F (nI p) (nI x) s = R (nI (p + 1)) s' ∧ FR (cpF p x) NoL s s' ∧ (∀ j, x ≤ j → j < 4 → mI s' 50 (4 * p + j) = if j = 0 then 0 else mI s 50 (16 + (4 * p + j))) := by
  intro k
  induction k with
  | zero =>
    intro x F s hb hx hF
    obtain ⟨F, rfl⟩ : ∃ g, F = g + 1 := ⟨F - 1, by omega⟩
    refine ⟨s, ?_, FR.rf _ _ _, fun j h1 h2 => absurd h2 (by omega)⟩
    show f_Mo_works_b93 R (f_Mo_works_h93 R F) (nI p) (nI x) s = _
    unfold f_Mo_works_b93 f_Mo_works_b135
    rw [if_pos (show (4 : Int32) ≤ nI x from nI_le (a := 4) (by omega) (by omega)), nI_1]
  | succ k ih =>
    intro x F s hb hx hF
    obtain ⟨F, rfl⟩ : ∃ g, F = g + 1 := ⟨F - 1, by omega⟩
    have e4 : (4 : Int32) * nI p + nI x = nI (4 * p + x) := by rw [show (4 : Int32) = nI 4 from rfl, nI_mul, nI_add]
    have e16 : (16 : Int32) + (4 : Int32) * nI p + nI x = nI (16 + (4 * p + x)) := by rw [show (4 : Int32) = nI 4 from rfl, show (16 : Int32) = nI 16 from rfl, nI_mul, nI_add, nI_add, Nat.add_assoc]
    have key : ∀ y : Int32, y = (if x = 0 then 0 else mI s 50 (16 + (4 * p + x))) → ∃ s', f_Mo_works_b128 R (f_Mo_works_h93 R F) (nI p) (nI x) (nI (4 * p + x)) y s = R (nI (p + 1)) s' ∧ FR (cpF p x) NoL s s' ∧ (∀ j, x ≤ j → j < 4 → mI s' 50 (4 * p + j) = if j = 0 then 0 else mI s 50 (16 + (4 * p + j))) := by
      intro y hy
      obtain ⟨s2, e2, f2, v2⟩ := ih (x + 1) F (uI s 50 (4 * p + x) y) hb (by omega) (by omega)
      refine ⟨s2, ?_, (fr_uI s _ ⟨rfl, by omega, by omega⟩).tr (f2.mo (fun a k g => by unfold cpF at g ⊢; omega) (fun _ _ g => g)), fun j h1 h2 => ?_⟩
      · unfold f_Mo_works_b128
        rw [f_ck_of hb, f_ck_of (vp_in_nI (by omega) (by decide)), nI_clamp (by omega), nI_1]
        exact e2
      · by_cases ej : j = x
        · rw [ej, f2.2.1 50 _ (by unfold cpF; omega), mI_at]; exact hy
        · rw [v2 j (by omega) h2, mI_ne _ _ (by omega)]
    show ∃ s', f_Mo_works_b93 R (f_Mo_works_h93 R F) (nI p) (nI x) s = _ ∧ _
    unfold f_Mo_works_b93
    rw [if_neg (show ¬ (4 : Int32) ≤ nI x from nI_ge (b := 4) (by omega) (by decide)), f_ck_of hb, e4]
    by_cases x0 : x = 0
    · rw [if_pos (show nI x = 0 by rw [x0]; rfl)]
      exact key 0 (by rw [if_pos x0])
    · rw [if_neg (nI_ne0 (by omega) (by omega)), e16, f_ck_of (vp_in_nI (by omega) (by decide)), nI_clamp (by omega)]
      exact key _ (by rw [if_neg x0])
def ppF (p a k : Nat) : Prop := (a = 49 ∧ p ≤ k ∧ k < 4) ∨ (a = 50 ∧ 4 * p ≤ k ∧ k < 16)
theorem w_steps : ∀ (k p F : Nat) (s : Sg), zl_B s → p + k = 4 → k < F → ∃ s', f_Mo_works_h72 F (nI p) s = f_Mo_works_b141 s' ∧ FR (ppF p) NoL s s' ∧ (∀ j, p ≤ j → j < 4 → mI s' 49 j = mI s 49 (4 + j)) ∧ (∀ j, 4 * p ≤ j → j < 16 → mI s' 50 j = if j % 4 = 0 then 0 else mI s 50 (16 + j)) := by
  intro k
  induction k with
  | zero =>
    intro p F s hb hx hF
    obtain ⟨F, rfl⟩ : ∃ g, F = g + 1 := ⟨F - 1, by omega⟩
    refine ⟨s, ?_, FR.rf _ _ _, fun j h1 h2 => absurd h2 (by omega), fun j h1 h2 => absurd h2 (by omega)⟩
    show f_Mo_works_b72 (f_Mo_works_h72 F) (nI p) s = _
    unfold f_Mo_works_b72
    rw [if_pos (show (4 : Int32) ≤ nI p from nI_le (a := 4) (by omega) (by omega))]
  | succ k ih =>
    intro p F s hb hx hF
    obtain ⟨F, rfl⟩ : ∃ g, F = g + 1 := ⟨F - 1, by omega⟩
    have e4 : (4 : Int32) + nI p = nI (4 + p) := nI_add 4 p
    have b1 : zl_B (uI s 49 p (mI s 49 (4 + p))) := hb
    obtain ⟨s2, e2, f2, v2⟩ := w_costs (p := p) (by omega) (f_Mo_works_h72 F) 4 0 zl_fl (uI s 49 p (mI s 49 (4 + p))) b1 rfl (by rw [zl_4096]; omega)
    obtain ⟨s3, e3, f3, v3, u3⟩ := ih (p + 1) F s2 (f2.b b1) (by omega) (by omega)
    refine ⟨s3, ?_, ((fr_uI s _ (Or.inl ⟨rfl, by omega, by omega⟩)).tr (f2.mo (fun a k g => by unfold cpF at g; unfold ppF; omega) (fun _ _ g => g))).tr (f3.mo (fun a k g => by unfold ppF at g ⊢; omega) (fun _ _ g => g)), fun j h1 h2 => ?_, fun j h1 h2 => ?_⟩
    · show f_Mo_works_b72 (f_Mo_works_h72 F) (nI p) s = _
      unfold f_Mo_works_b72
      rw [if_neg (show ¬ (4 : Int32) ≤ nI p from nI_ge (b := 4) (by omega) (by decide)), f_ck_of hb, e4, f_ck_of (vp_in_nI (by omega) (by decide)), f_ck_of (vp_in_nI (by omega) (by decide)), nI_clamp (by omega), nI_clamp (by omega)]
      exact e2.trans e3
    · by_cases ej : j = p
      · rw [ej, f3.2.1 49 p (by unfold ppF; omega), f2.2.1 49 p (by unfold cpF; omega), mI_at]
      · rw [v3 j (by omega) h2, f2.2.1 49 _ (by unfold cpF; omega), mI_ne _ _ (by omega)]
    · by_cases ej : j < 4 * p + 4
      · obtain ⟨i, rfl⟩ : ∃ i, j = 4 * p + i := ⟨j - 4 * p, by omega⟩
        rw [f3.2.1 50 _ (by unfold ppF; omega), v2 i (Nat.zero_le _) (by omega), mI_ne _ _ (by omega)]
        by_cases i0 : i = 0
        · rw [if_pos i0, if_pos (by omega)]
        · rw [if_neg i0, if_neg (by omega)]
      · rw [u3 j (by omega) h2, f2.2.1 50 _ (by unfold cpF; omega), mI_ne _ _ (by omega)]
def lnF (x a k : Nat) : Prop := (51 ≤ a ∧ a ≤ 54) ∧ x ≤ k ∧ k < 8
theorem w_lines : ∀ (k x F : Nat) (s : Sg), zl_B s → x + k = 8 → k < F → ∃ s', f_Mo_works_h143 F (nI x) s = f_Mo_works_b223 s' ∧ FR (lnF x) NoL s s' ∧ (∀ j, x ≤ j → j < 8 → mI s' 51 j = mI s 51 (8 + j) ∧ mI s' 52 j = mI s 52 (8 + j) ∧ mI s' 53 j = mI s 53 (8 + j) - 1000 ∧ mI s' 54 j = mI s 54 (8 + j) - 1000) := by
  intro k
  induction k with
  | zero =>
    intro x F s hb hx hF
    obtain ⟨F, rfl⟩ : ∃ g, F = g + 1 := ⟨F - 1, by omega⟩
    refine ⟨s, ?_, FR.rf _ _ _, fun j h1 h2 => absurd h2 (by omega)⟩
    show f_Mo_works_b143 (f_Mo_works_h143 F) (nI x) s = _
    unfold f_Mo_works_b143
    rw [if_pos (show (8 : Int32) ≤ nI x from nI_le (a := 8) (by omega) (by omega))]
  | succ k ih =>
    intro x F s hb hx hF
    obtain ⟨F, rfl⟩ : ∃ g, F = g + 1 := ⟨F - 1, by omega⟩
    have e8 : (8 : Int32) + nI x = nI (8 + x) := nI_add 8 x
    have v1 : vp_in (nI (8 + x)) 16 := vp_in_nI (by omega) (by decide)
    have v2 : vp_in (nI x) 16 := vp_in_nI (by omega) (by decide)
    obtain ⟨s2, e2, f2, w2⟩ := ih (x + 1) F (uI (uI (uI (uI s 51 x (mI s 51 (8 + x))) 52 x (mI s 52 (8 + x))) 53 x (mI s 53 (8 + x) - 1000)) 54 x (mI s 54 (8 + x) - 1000)) hb (by omega) (by omega)
    have f1 : FR (lnF x) NoL s (uI (uI (uI (uI s 51 x (mI s 51 (8 + x))) 52 x (mI s 52 (8 + x))) 53 x (mI s 53 (8 + x) - 1000)) 54 x (mI s 54 (8 + x) - 1000)) := (((fr_uI s _ (by unfold lnF; omega)).tr (fr_uI _ _ (by unfold lnF; omega))).tr (fr_uI _ _ (by unfold lnF; omega))).tr (fr_uI _ _ (by unfold lnF; omega))
    refine ⟨s2, ?_, f1.tr (f2.mo (fun a k g => by unfold lnF at g ⊢; omega) (fun _ _ g => g)), fun j h1 h2 => ?_⟩
    · show f_Mo_works_b143 (f_Mo_works_h143 F) (nI x) s = _
      have r52 : mI (uI s 51 x (mI s 51 (8 + x))) 52 (8 + x) = mI s 52 (8 + x) := mI_ne _ _ (by omega)
      have r53 : mI (uI (uI s 51 x (mI s 51 (8 + x))) 52 x (mI s 52 (8 + x))) 53 (8 + x) = mI s 53 (8 + x) := by rw [mI_ne _ _ (by omega), mI_ne _ _ (by omega)]
      have r54 : mI (uI (uI (uI s 51 x (mI s 51 (8 + x))) 52 x (mI s 52 (8 + x))) 53 x (mI s 53 (8 + x) - 1000)) 54 (8 + x) = mI s 54 (8 + x) := by rw [mI_ne _ _ (by omega), mI_ne _ _ (by omega), mI_ne _ _ (by omega)]
      unfold f_Mo_works_b143
      rw [if_neg (show ¬ (8 : Int32) ≤ nI x from nI_ge (b := 8) (by omega) (by decide)), f_ck_of hb, e8, f_ck_of v1, f_ck_of v2, nI_clamp (by omega), nI_clamp (by omega), nI_1]
      refine (f_ck_of v1).trans ((f_ck_of v2).trans ?_)
      refine (f_ck_of v1).trans ((f_ck_of v2).trans ?_)
      refine (f_ck_of v1).trans ((f_ck_of v2).trans ?_)
      show f_Mo_works_h143 F (nI (x + 1)) (uI (uI (uI (uI s 51 x (mI s 51 (8 + x))) 52 x (mI (uI s 51 x (mI s 51 (8 + x))) 52 (8 + x))) 53 x (mI (uI (uI s 51 x (mI s 51 (8 + x))) 52 x (mI (uI s 51 x (mI s 51 (8 + x))) 52 (8 + x))) 53 (8 + x) - 1000)) 54 x (mI (uI (uI (uI s 51 x (mI s 51 (8 + x))) 52 x (mI (uI s 51 x (mI s 51 (8 + x))) 52 (8 + x))) 53 x (mI (uI (uI s 51 x (mI s 51 (8 + x))) 52 x (mI (uI s 51 x (mI s 51 (8 + x))) 52 (8 + x))) 53 (8 + x) - 1000)) 54 (8 + x) - 1000)) = _
      rw [r52, r53, r54]
      exact e2
    · by_cases ej : j = x
      · rw [ej, f2.2.1 51 x (by unfold lnF; omega), f2.2.1 52 x (by unfold lnF; omega), f2.2.1 53 x (by unfold lnF; omega), f2.2.1 54 x (by unfold lnF; omega)]
        refine ⟨?_, ?_, ?_, mI_at _ _ _ _⟩
        · rw [mI_ne _ _ (by omega), mI_ne _ _ (by omega), mI_ne _ _ (by omega), mI_at]
        · rw [mI_ne _ _ (by omega), mI_ne _ _ (by omega), mI_at]
        · rw [mI_ne _ _ (by omega), mI_at]
      · have hz : ∀ a, mI (uI (uI (uI (uI s 51 x (mI s 51 (8 + x))) 52 x (mI s 52 (8 + x))) 53 x (mI s 53 (8 + x) - 1000)) 54 x (mI s 54 (8 + x) - 1000)) a (8 + j) = mI s a (8 + j) := fun a => by rw [mI_ne _ _ (by omega), mI_ne _ _ (by omega), mI_ne _ _ (by omega), mI_ne _ _ (by omega)]
        have := w2 j (by omega) h2
        rw [hz, hz, hz, hz] at this
        exact this
def cdF (x a k : Nat) : Prop := a = 55 ∧ x ≤ k ∧ k < 1000
theorem w_codes : ∀ (k x F : Nat) (s : Sg), zl_B s → x + k = 1000 → k < F → ∃ s', f_Mo_works_h225 F (nI x) s = f_Mo_works_b254 s' ∧ FR (cdF x) NoL s s' ∧ (∀ j, x ≤ j → j < 1000 → mI s' 55 j = mI s 55 (1000 + j)) := by
  intro k
  induction k with
  | zero =>
    intro x F s hb hx hF
    obtain ⟨F, rfl⟩ : ∃ g, F = g + 1 := ⟨F - 1, by omega⟩
    refine ⟨s, ?_, FR.rf _ _ _, fun j h1 h2 => absurd h2 (by omega)⟩
    show f_Mo_works_b225 (f_Mo_works_h225 F) (nI x) s = _
    unfold f_Mo_works_b225
    rw [if_pos (show (1000 : Int32) ≤ nI x from nI_le (a := 1000) (by omega) (by omega))]
  | succ k ih =>
    intro x F s hb hx hF
    obtain ⟨F, rfl⟩ : ∃ g, F = g + 1 := ⟨F - 1, by omega⟩
    have e8 : (1000 : Int32) + nI x = nI (1000 + x) := nI_add 1000 x
    obtain ⟨s2, e2, f2, w2⟩ := ih (x + 1) F (uI s 55 x (mI s 55 (1000 + x))) hb (by omega) (by omega)
    refine ⟨s2, ?_, (fr_uI s _ ⟨rfl, by omega, by omega⟩).tr (f2.mo (fun a k g => by unfold cdF at g ⊢; omega) (fun _ _ g => g)), fun j h1 h2 => ?_⟩
    · show f_Mo_works_b225 (f_Mo_works_h225 F) (nI x) s = _
      unfold f_Mo_works_b225
      rw [if_neg (show ¬ (1000 : Int32) ≤ nI x from nI_ge (b := 1000) (by omega) (by decide)), f_ck_of hb, e8, f_ck_of (vp_in_nI (by omega) (by decide)), f_ck_of (vp_in_nI (by omega) (by decide)), nI_clamp (by omega), nI_clamp (by omega), nI_1]
      exact e2
    · by_cases ej : j = x
      · rw [ej, f2.2.1 55 x (by unfold cdF; omega), mI_at]
      · rw [w2 j (by omega) h2, mI_ne _ _ (by omega)]
end
