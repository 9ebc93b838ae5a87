/-! works: the model works out its lines, and forgets -/
section
variable {s s' s1 s2 : Sg} {z : Ps}
/-- the lines lie ready -/
def LW (z : Ps) (s : Sg) : Prop := zl_B s ∧ mI s 46 10 = nI z.e.np ∧ mI s 46 12 = nI z.ln ∧ (∀ i, i < z.ln → mI s 53 i = nI (mps z.la i) ∧ mI s 54 i = nI (mps z.la (i + 1)) ∧ HC s 55 (mps z.la i) (z.la i).2.1)
/-- .. and are sound -/
def LZ (z : Ps) : Prop := z.e.np ≤ 4 ∧ z.ln ≤ 8 ∧ mps z.la z.ln ≤ 1000 ∧ (∀ i, i < z.ln → MJ z.e.np 0 0 (z.la i))
theorem LW.f {A B : Nat → Nat → Prop} (h : LW z s) (f : FR A B s s') (hA : ∀ a k, A a k → 58 ≤ a) : LW z s' := by
  obtain ⟨h1, h2, h3, h4⟩ := h
  have y : ∀ a k, a < 58 → mI s' a k = mI s a k := fun a k g => f.2.1 a k (fun q => by have := hA a k q; omega)
  refine ⟨f.b h1, (y 46 10 (by decide)).trans h2, (y 46 12 (by decide)).trans h3, fun i hi => ?_⟩
  obtain ⟨b1, b2, b3⟩ := h4 i hi
  exact ⟨(y 53 i (by decide)).trans b1, (y 54 i (by decide)).trans b2, HC_cg (fun k hk => y 55 _ (by decide)) b3⟩
def vF (q a k : Nat) : Prop := (58 ≤ a ∧ a ≤ 67) ∨ (a = 68 ∧ k % 256 = q)
theorem w_ln (hz : LZ z) {q : Nat} (hq : q < 256) (R : Int32 → Sg → Option (Unit × Sg)) : ∀ (k l F : Nat) (s : Sg), l + k = z.ln → k < F → LW z s → (∀ p, p < z.e.np → mI s 67 (1 + p) = nI (sStep q p)) → ∃ s', f_Mo_worksOut_h46 R F (nI q) (nI l) s = R (nI (q + 1)) s' ∧ FR (vF q) NoL s s' ∧ (∀ j, l ≤ j → j < z.ln → mI s' 68 (256 * j + q) = (z.la j).2.2 q) ∧ (∀ j, j < l → mI s' 68 (256 * j + q) = mI s 68 (256 * j + q)) := by
  obtain ⟨z1, z2, z3, z4⟩ := hz
  intro k
  induction k with
  | zero =>
    intro l F s hl hF h hv
    obtain ⟨F, rfl⟩ : ∃ g, F = g + 1 := ⟨F - 1, by omega⟩
    refine ⟨s, ?_, FR.rf _ _ _, fun j h1 h2 => absurd h2 (by omega), fun _ _ => rfl⟩
    show f_Mo_worksOut_b46 R (f_Mo_worksOut_h46 R F) (nI q) (nI l) s = _
    unfold f_Mo_worksOut_b46 f_Mo_worksOut_b77
    rw [f_ck_of h.1, h.2.2.1, if_pos (nI_le (by omega) (by omega)), nI_1]
  | succ k ih =>
    intro l F s hl hF h hv
    obtain ⟨F, rfl⟩ : ∃ g, F = g + 1 := ⟨F - 1, by omega⟩
    obtain ⟨b1, b2, b3⟩ := h.2.2.2 l (by omega)
    have hmo := mps_mo (la := z.la) (show l + 1 ≤ z.ln by omega)
    have e9 : mps z.la (l + 1) = mps z.la l + (z.la l).2.1.length := rfl
    obtain ⟨s1, e1, f1⟩ := m_line (z4 l (by omega)) (x := l) (q := q) (c := mps z.la l) (by omega) hq h.1 hv b1 b2 (by omega) b3
    have f1' : FR (vF q) NoL s s1 := f1.mo (fun a k g => Or.inl ⟨g.1, by have := g.2; omega⟩) (fun _ _ g => g)
    have f2 : FR (vF q) NoL s1 (uI s1 68 (256 * l + q) ((z.la l).2.2 q)) := fr_uI _ _ (Or.inr ⟨rfl, by omega⟩)
    have w67 : ∀ p, p < z.e.np → mI (uI s1 68 (256 * l + q) ((z.la l).2.2 q)) 67 (1 + p) = nI (sStep q p) := fun p hp => by
      rw [mI_ne _ _ (by omega), f1.2.1 67 _ (fun g => by have := g.2; omega)]
      exact hv p hp
    obtain ⟨s3, e3, f3, v3, u3⟩ := ih (l + 1) F _ (by omega) (by omega) ((h.f f1' (fun a k g => by unfold vF at g; omega)).f f2 (fun a k g => by unfold vF at g; omega)) w67
    have e68 : (256 : Int32) * nI l + nI q = nI (256 * l + q) := by rw [show (256 : Int32) = nI 256 from rfl, nI_mul, nI_add]
    refine ⟨s3, ?_, (f1'.tr f2).tr f3, fun j h1 h2 => ?_, fun j h1 => ?_⟩
    · show f_Mo_worksOut_b46 R (f_Mo_worksOut_h46 R F) (nI q) (nI l) s = _
      unfold f_Mo_worksOut_b46
      rw [f_ck_of h.1, h.2.2.1, if_neg (nI_ge (by omega) (by omega)), f_bd_of e1, f_ck_of (f1.b h.1), e68, f_ck_of (vp_in_nI (by omega) (by decide)), nI_clamp (by omega), nI_1]
      exact e3
    · by_cases ej : j = l
      · rw [ej, u3 l (by omega), mI_at]
      · exact v3 j (by omega) h2
    · rw [u3 j (by omega), mI_ne _ _ (by omega), f1.2.1 68 _ (fun g => by have := g.2; omega)]
theorem w_vals (hz : LZ z) {q : Nat} (hq : q < 256) (R : Int32 → Sg → Option (Unit × Sg)) : ∀ (k p F : Nat) (s : Sg), p + k = z.e.np → k < F → LW z s → (∀ j, j < p → mI s 67 (1 + j) = nI (sStep q j)) → ∃ s', f_Mo_worksOut_h16 R F (nI q) (nI p) s = R (nI (q + 1)) s' ∧ FR (vF q) NoL s s' ∧ (∀ j, j < z.ln → mI s' 68 (256 * j + q) = (z.la j).2.2 q) := by
  have hz' := hz
  obtain ⟨z1, z2, z3, z4⟩ := hz
  intro k
  induction k with
  | zero =>
    intro p F s hl hF h hv
    obtain ⟨F, rfl⟩ : ∃ g, F = g + 1 := ⟨F - 1, by omega⟩
    obtain ⟨s1, e1, f1, v1, -⟩ := w_ln hz' hq R z.ln 0 zl_fl s (by omega) (by rw [zl_4096]; omega) h (fun j hj => hv j (by omega))
    refine ⟨s1, ?_, f1, fun j hj => v1 j (Nat.zero_le _) hj⟩
    show f_Mo_worksOut_b16 R (f_Mo_worksOut_h16 R F) (nI q) (nI p) s = _
    unfold f_Mo_worksOut_b16 f_Mo_worksOut_b44
    rw [f_ck_of h.1, h.2.1, if_pos (nI_le (by omega) (by omega))]
    exact e1
  | succ k ih =>
    intro p F s hl hF h hv
    obtain ⟨F, rfl⟩ : ∃ g, F = g + 1 := ⟨F - 1, by omega⟩
    have f1 : FR (vF q) NoL s (uI s 67 (1 + p) (nI (sStep q p))) := fr_uI s _ (Or.inl ⟨by decide, by decide⟩)
    obtain ⟨s2, e2, f2, v2⟩ := ih (p + 1) F (uI s 67 (1 + p) (nI (sStep q p))) (by omega) (by omega) (h.f f1 (fun a k g => by unfold vF at g; omega)) (fun j hj => by
      by_cases ej : j = p
      · rw [ej, mI_at]
      · rw [mI_ne _ _ (by omega)]; exact hv j (by omega))
    have e1 : (1 : Int32) + nI p = nI (1 + p) := nI_add 1 p
    refine ⟨s2, ?_, f1.tr f2, v2⟩
    show f_Mo_worksOut_b16 R (f_Mo_worksOut_h16 R F) (nI q) (nI p) s = _
    unfold f_Mo_worksOut_b16
    rw [f_ck_of h.1, h.2.1, if_neg (nI_ge (by omega) (by omega)), f_bd_of (m_stepOf hq (by omega)), f_ck_of h.1, e1, f_ck_of (vp_in_nI (by omega) (by decide)), nI_clamp (by omega), nI_1]
    exact e2
def voF (q a k : Nat) : Prop := (58 ≤ a ∧ a ≤ 67) ∨ (a = 68 ∧ q ≤ k % 256)
theorem w_out (hz : LZ z) : ∀ (k q F : Nat) (s : Sg), q + k = 4 ^ z.e.np → k < F → LW z s → ∃ s', f_Mo_worksOut_h2 F (nI q) s = some ((), s') ∧ FR (voF q) NoL s s' ∧ (∀ j, j < z.ln → ∀ q', q ≤ q' → q' < 4 ^ z.e.np → mI s' 68 (256 * j + q') = (z.la j).2.2 q') := by
  have h256 := p4_le hz.1
  intro k
  induction k with
  | zero =>
    intro q F s hl hF h
    obtain ⟨F, rfl⟩ : ∃ g, F = g + 1 := ⟨F - 1, by omega⟩
    refine ⟨s, ?_, FR.rf _ _ _, fun j _ q' h1 h2 => absurd h2 (by omega)⟩
    show f_Mo_worksOut_b2 (f_Mo_worksOut_h2 F) (nI q) s = _
    unfold f_Mo_worksOut_b2
    rw [f_ck_of h.1, h.2.1, shl_2p _ hz.1, if_pos (nI_le (by omega) (by omega))]
  | succ k ih =>
    intro q F s hl hF h
    obtain ⟨F, rfl⟩ : ∃ g, F = g + 1 := ⟨F - 1, by omega⟩
    obtain ⟨s1, e1, f1, v1⟩ := w_vals hz (q := q) (by omega) (f_Mo_worksOut_h2 F) z.e.np 0 zl_fl s (by omega) (by rw [zl_4096]; have := hz.1; omega) h (fun j hj => absurd hj (Nat.not_lt_zero _))
    obtain ⟨s2, e2, f2, v2⟩ := ih (q + 1) F s1 (by omega) (by omega) (h.f f1 (fun a k g => by unfold vF at g; omega))
    refine ⟨s2, ?_, (f1.mo (fun a k g => by unfold vF at g; unfold voF; omega) (fun _ _ g => g)).tr (f2.mo (fun a k g => by unfold voF at g ⊢; omega) (fun _ _ g => g)), fun j hj q' h1 h2 => ?_⟩
    · show f_Mo_worksOut_b2 (f_Mo_worksOut_h2 F) (nI q) s = _
      unfold f_Mo_worksOut_b2
      rw [f_ck_of h.1, h.2.1, shl_2p _ hz.1, if_neg (nI_ge (by omega) (by omega))]
      exact e1.trans e2
    · by_cases eq : q' = q
      · rw [eq, f2.2.1 68 _ (by unfold voF; omega)]
        exact v1 j hj
      · exact v2 j hj q' (by omega) h2
def fgF (a k : Nat) : Prop := ((a = 69 ∨ a = 70 ∨ a = 73) ∧ k < 3) ∨ (a = 46 ∧ 45 ≤ k ∧ k ≤ 47)
theorem w_forgets : ∀ (k x F : Nat) (s : Sg), zl_B s → x + k = 3 → k < F → ∃ s', f_Mo_forgets_h2 F (nI x) s = some ((), s') ∧ FR fgF NoL s s' ∧ (∀ j, x ≤ j → j < 3 → mI s' 69 j = 0 ∧ mI s' 70 j = 1 ∧ mI s' 73 j = 0) ∧ (∀ j, j < x → mI s' 69 j = mI s 69 j ∧ mI s' 70 j = mI s 70 j ∧ mI s' 73 j = mI s 73 j) ∧ mI s' 46 45 = 0 ∧ mI s' 46 46 = 0 ∧ mI s' 46 47 = 0 := by
  intro k
  induction k with
  | zero =>
    intro x F s hb hx hF
    obtain ⟨F, rfl⟩ : ∃ g, F = g + 1 := ⟨F - 1, by omega⟩
    have A0 : zl_at s 46 6 := zl_fo hb.1 rfl
    have f1 : FR fgF NoL s (uI (uI (uI s 46 46 0) 46 47 0) 46 45 0) := ((fr_uI s _ (by unfold fgF; omega)).tr (fr_uI _ _ (by unfold fgF; omega))).tr (fr_uI _ _ (by unfold fgF; omega))
    refine ⟨_, ?_, f1, fun j h1 h2 => absurd h2 (by omega), fun j _ => ⟨?_, ?_, ?_⟩, mI_at _ _ _ _, ?_, ?_⟩
    · show f_Mo_forgets_b2 (f_Mo_forgets_h2 F) (nI x) s = _
      unfold f_Mo_forgets_b2 f_Mo_forgets_b34
      rw [if_pos (show (3 : Int32) ≤ nI x from nI_le (a := 3) (by omega) (by omega))]
      exact ck_t A0 (ck_t A0 (ck_t A0 rfl))
    · rw [mI_ne _ _ (by omega), mI_ne _ _ (by omega), mI_ne _ _ (by omega)]
    · rw [mI_ne _ _ (by omega), mI_ne _ _ (by omega), mI_ne _ _ (by omega)]
    · rw [mI_ne _ _ (by omega), mI_ne _ _ (by omega), mI_ne _ _ (by omega)]
    · rw [mI_ne _ _ (by omega), mI_ne _ _ (by omega)]; exact mI_at _ _ _ _
    · rw [mI_ne _ _ (by omega)]; exact mI_at _ _ _ _
  | succ k ih =>
    intro x F s hb hx hF
    obtain ⟨F, rfl⟩ : ∃ g, F = g + 1 := ⟨F - 1, by omega⟩
    have A0 : zl_at s 46 6 := zl_fo hb.1 rfl
    have v3 : vp_in (nI x) 3 := vp_in_nI (by omega) (by decide)
    obtain ⟨s2, e2, f2, w2, u2, r2⟩ := ih (x + 1) F (uI (uI (uI s 69 x 0) 70 x 1) 73 x 0) hb (by omega) (by omega)
    have f1 : FR fgF NoL s (uI (uI (uI s 69 x 0) 70 x 1) 73 x 0) := ((fr_uI s _ (by unfold fgF; omega)).tr (fr_uI _ _ (by unfold fgF; omega))).tr (fr_uI _ _ (by unfold fgF; omega))
    refine ⟨s2, ?_, f1.tr f2, fun j h1 h2 => ?_, fun j h1 => ?_, r2⟩
    · show f_Mo_forgets_b2 (f_Mo_forgets_h2 F) (nI x) s = _
      unfold f_Mo_forgets_b2
      rw [if_neg (show ¬ (3 : Int32) ≤ nI x from nI_ge (b := 3) (by omega) (by decide)), nI_clamp (by omega), nI_1]
      refine ck_t A0 (ck_t (zl_gr hb.2 rfl rfl) (ck_t (show zl_ar s 69 10 3 from zl_fx hb.1 rfl) (ck_t v3 ?_)))
      refine ck_t A0 (ck_t (zl_gr (s := s) hb.2 rfl rfl) (ck_t (show zl_ar s 70 10 3 from zl_fx hb.1 rfl) (ck_t v3 ?_)))
      refine ck_t A0 (ck_t (zl_gr (s := s) hb.2 rfl rfl) (ck_t (show zl_ar s 73 13 3 from zl_fx hb.1 rfl) (ck_t v3 ?_)))
      exact e2
    · by_cases ej : j = x
      · obtain ⟨q1, q2, q3⟩ := u2 x (by omega)
        rw [ej, q1, q2, q3]
        refine ⟨?_, ?_, mI_at _ _ _ _⟩
        · rw [mI_ne _ _ (by omega), mI_ne _ _ (by omega)]; exact mI_at _ _ _ _
        · rw [mI_ne _ _ (by omega)]; exact mI_at _ _ _ _
      · exact w2 j (by omega) h2
    · obtain ⟨q1, q2, q3⟩ := u2 j (by omega)
      rw [q1, q2, q3]
      refine ⟨?_, ?_, ?_⟩
      · rw [mI_ne _ _ (by omega), mI_ne _ _ (by omega), mI_ne _ _ (by omega)]
      · rw [mI_ne _ _ (by omega), mI_ne _ _ (by omega), mI_ne _ _ (by omega)]
      · rw [mI_ne _ _ (by omega), mI_ne _ _ (by omega), mI_ne _ _ (by omega)]
/-- what the model's call may write -/
def wkA (a k : Nat) : Prop := (a = 46 ∧ ((10 ≤ k ∧ k ≤ 12) ∨ (45 ≤ k ∧ k ≤ 47))) ∨ (49 ≤ a ∧ a ≤ 70) ∨ a = 73
def wkB (a k : Nat) : Prop := (a = 46 ∧ k = 7) ∨ a = 48
/-- what the model keeps of a text that was read -/
def MZ (z : Ps) (s : Sg) : Prop := mI s 46 10 = nI z.e.np ∧ mI s 46 11 = nI z.e.nt ∧ mI s 46 12 = nI z.ln ∧ (∀ p, p < z.e.np → mI s 49 p = nI (z.stp p)) ∧ (∀ k, k < 16 → mI s 50 k = if k % 4 = 0 then 0 else nI (z.cst k)) ∧ MC z.cst s ∧ (∀ l, l < z.ln → mI s 51 l = nI (z.lw l % 16) ∧ mI s 52 l = nI (z.lw l / 16)) ∧
  (∀ l, l < z.ln → ∀ q, q < 4 ^ z.e.np → mI s 68 (256 * l + q) = (z.la l).2.2 q) ∧ (∀ t, t < 3 → mI s 69 t = 0 ∧ mI s 70 t = 1 ∧ mI s 73 t = 0) ∧ mI s 46 45 = 0 ∧ mI s 46 46 = 0 ∧ mI s 46 47 = 0
theorem m_keep2 {T : Nat → Nat} {n : Nat} {τ : Tok} (h : MS T n z τ s) (hz : LZ z) (hnt : z.e.nt ≤ 3) : ∃ s', f_Mo_works_h43 zl_fl 0 (uI (uI (uI s 46 10 (nI z.e.np)) 46 11 (nI z.e.nt)) 46 12 (nI z.ln)) = some (0, s') ∧ FR wkA wkB s s' ∧ MZ z s' := by
  obtain ⟨h, hc, ho⟩ := h
  have hb := h.1.b
  have f0 : FR wkA wkB s (uI (uI (uI s 46 10 (nI z.e.np)) 46 11 (nI z.e.nt)) 46 12 (nI z.ln)) := ((fr_uI s _ (by unfold wkA; omega)).tr (fr_uI _ _ (by unfold wkA; omega))).tr (fr_uI _ _ (by unfold wkA; omega))
  have v10 : mI (uI (uI (uI s 46 10 (nI z.e.np)) 46 11 (nI z.e.nt)) 46 12 (nI z.ln)) 46 10 = nI z.e.np := by rw [mI_ne _ _ (by omega), mI_ne _ _ (by omega)]; exact mI_at _ _ _ _
  have v11 : mI (uI (uI (uI s 46 10 (nI z.e.np)) 46 11 (nI z.e.nt)) 46 12 (nI z.ln)) 46 11 = nI z.e.nt := by rw [mI_ne _ _ (by omega)]; exact mI_at _ _ _ _
  have v12 : mI (uI (uI (uI s 46 10 (nI z.e.np)) 46 11 (nI z.e.nt)) 46 12 (nI z.ln)) 46 12 = nI z.ln := mI_at _ _ _ _
  have w0 : ∀ a k, a ≠ 46 → mI (uI (uI (uI s 46 10 (nI z.e.np)) 46 11 (nI z.e.nt)) 46 12 (nI z.ln)) a k = mI s a k := fun a k g => by rw [mI_ne _ _ (by omega), mI_ne _ _ (by omega), mI_ne _ _ (by omega)]
  generalize uI (uI (uI s 46 10 (nI z.e.np)) 46 11 (nI z.e.nt)) 46 12 (nI z.ln) = s0 at *
  obtain ⟨s1, e1, f1⟩ := w_names 7 0 zl_fl s0 (f0.b hb) rfl (by rw [zl_4096]; omega)
  have b1 := f1.b (f0.b hb)
  obtain ⟨s2, e2, f2, v2, u2⟩ := w_steps 4 0 zl_fl s1 b1 rfl (by rw [zl_4096]; omega)
  have b2 := f2.b b1
  obtain ⟨s3, e3, f3, v3⟩ := w_lines 8 0 zl_fl s2 b2 rfl (by rw [zl_4096]; omega)
  have b3 := f3.b b2
  obtain ⟨s4, e4, f4, v4⟩ := w_codes 1000 0 zl_fl s3 b3 rfl (by rw [zl_4096]; omega)
  have b4 := f4.b b3
  -- places that are left alone up to here
  have y1 : ∀ a k, mI s1 a k = mI s0 a k := fun a k => f1.2.1 a k (fun q => q)
  have y2 : ∀ a k, ¬ ppF 0 a k → mI s2 a k = mI s0 a k := fun a k g => (f2.2.1 a k g).trans (y1 a k)
  have y3 : ∀ a k, ¬ ppF 0 a k → ¬ lnF 0 a k → mI s3 a k = mI s0 a k := fun a k g g2 => (f3.2.1 a k g2).trans (y2 a k g)
  have y4 : ∀ a k, ¬ ppF 0 a k → ¬ lnF 0 a k → ¬ cdF 0 a k → mI s4 a k = mI s0 a k := fun a k g g2 g3 => (f4.2.1 a k g3).trans (y3 a k g g2)
  have hlw : LW z s4 := by
    refine ⟨b4, (y4 46 10 (by unfold ppF; omega) (by unfold lnF; omega) (by unfold cdF; omega)).trans v10, (y4 46 12 (by unfold ppF; omega) (by unfold lnF; omega) (by unfold cdF; omega)).trans v12, fun i hi => ?_⟩
    have hz2 := hz.2.1
    obtain ⟨c1, c2, c3, c4, c5⟩ := ho.2.2 i hi
    obtain ⟨d1, d2, d3, d4⟩ := v3 i (Nat.zero_le _) (by omega)
    have q53 : mI s2 53 (8 + i) = nI (1000 + mps z.la i) := (y2 53 _ (by unfold ppF; omega)).trans ((w0 53 _ (by decide)).trans c3)
    have q54 : mI s2 54 (8 + i) = nI (1000 + mps z.la (i + 1)) := (y2 54 _ (by unfold ppF; omega)).trans ((w0 54 _ (by decide)).trans c4)
    have hmo := mps_mo (la := z.la) (show i + 1 ≤ z.ln from hi)
    have h9 : mps z.la (i + 1) = mps z.la i + (z.la i).2.1.length := rfl
    have h10 := hz.2.2.1
    refine ⟨?_, ?_, HC_cg (fun k hk => ?_) c5⟩
    · rw [f4.2.1 53 i (by unfold cdF; omega), d3, q53]
      exact nI_sub 1000 _
    · rw [f4.2.1 54 i (by unfold cdF; omega), d4, q54]
      exact nI_sub 1000 _
    · rw [v4 _ (Nat.zero_le _) (by omega), y3 55 _ (by unfold ppF; omega) (by unfold lnF; omega), w0 55 _ (by decide), Nat.add_assoc]
  obtain ⟨s5, e5, f5, v5⟩ := w_out hz (4 ^ z.e.np) 0 zl_fl s4 (by omega) (by rw [zl_4096]; have := p4_le hz.1; omega) hlw
  have b5 := f5.b b4
  obtain ⟨s6, e6, f6, v6, -, v6b⟩ := w_forgets 3 0 zl_fl s5 b5 rfl (by rw [zl_4096]; omega)
  have y6 : ∀ a k, ¬ ppF 0 a k → ¬ lnF 0 a k → ¬ cdF 0 a k → ¬ voF 0 a k → ¬ fgF a k → mI s6 a k = mI s0 a k := fun a k g g2 g3 g4 g5 => (f6.2.1 a k g5).trans ((f5.2.1 a k g4).trans (y4 a k g g2 g3))
  refine ⟨s6, ?_, ?_, ?_⟩
  · have e254 : f_Mo_works_b254 s4 = some (0, s6) := by
      unfold f_Mo_works_b254 f_Mo_worksOut f_Mo_forgets
      refine ck_t b4 ((f_bd_of (show f_Mo_worksOut_h2 zl_fl 0 s4 = some ((), s5) from e5)).trans (ck_t b5 ((f_bd_of (show f_Mo_forgets_h2 zl_fl 0 s5 = some ((), s6) from e6)).trans rfl)))
    refine (show f_Mo_works_h43 zl_fl 0 s0 = _ from e1).trans ?_
    unfold f_Mo_works_b70
    refine (show f_Mo_works_h72 zl_fl 0 s1 = _ from e2).trans ?_
    unfold f_Mo_works_b141
    refine (show f_Mo_works_h143 zl_fl 0 s2 = _ from e3).trans ?_
    unfold f_Mo_works_b223
    exact (show f_Mo_works_h225 zl_fl 0 s3 = _ from e4).trans e254
  · refine f0.tr ?_
    have g1 : FR wkA wkB s0 s1 := f1.mo (fun a k g => absurd g (fun q => q)) (fun a k g => Or.inr g)
    have g2 : FR wkA wkB s1 s2 := f2.mo (fun a k g => by unfold ppF at g; unfold wkA; omega) (fun a k g => absurd g (fun q => q))
    have g3 : FR wkA wkB s2 s3 := f3.mo (fun a k g => by unfold lnF at g; unfold wkA; omega) (fun a k g => absurd g (fun q => q))
    have g4 : FR wkA wkB s3 s4 := f4.mo (fun a k g => by unfold cdF at g; unfold wkA; omega) (fun a k g => absurd g (fun q => q))
    have g5 : FR wkA wkB s4 s5 := f5.mo (fun a k g => by unfold voF at g; unfold wkA; omega) (fun a k g => absurd g (fun q => q))
    have g6 : FR wkA wkB s5 s6 := f6.mo (fun a k g => by unfold fgF at g; unfold wkA; omega) (fun a k g => absurd g (fun q => q))
    exact ((((g1.tr g2).tr g3).tr g4).tr g5).tr g6
  · have hz1 := hz.1
    have hz2 := hz.2.1
    refine ⟨(y6 46 10 (by unfold ppF; omega) (by unfold lnF; omega) (by unfold cdF; omega) (by unfold voF; omega) (by unfold fgF; omega)).trans v10, (y6 46 11 (by unfold ppF; omega) (by unfold lnF; omega) (by unfold cdF; omega) (by unfold voF; omega) (by unfold fgF; omega)).trans v11, (y6 46 12 (by unfold ppF; omega) (by unfold lnF; omega) (by unfold cdF; omega) (by unfold voF; omega) (by unfold fgF; omega)).trans v12, fun p hp => ?_, fun k hk => ?_, fun k hk => ?_, fun l hl => ?_, fun l hl q hq => ?_, fun t ht => v6 t (Nat.zero_le _) ht, v6b⟩
    · rw [f6.2.1 49 p (by unfold fgF; omega), f5.2.1 49 p (by unfold voF; omega), f4.2.1 49 p (by unfold cdF; omega), f3.2.1 49 p (by unfold lnF; omega), v2 p (Nat.zero_le _) (by omega), y1, w0 49 _ (by decide)]
      exact ho.2.1 p hp
    · rw [f6.2.1 50 k (by unfold fgF; omega), f5.2.1 50 k (by unfold voF; omega), f4.2.1 50 k (by unfold cdF; omega), f3.2.1 50 k (by unfold lnF; omega), u2 k (by omega) hk, y1, w0 50 _ (by decide), hc k hk]
    · exact (y6 50 (16 + k) (by unfold ppF; omega) (by unfold lnF; omega) (by unfold cdF; omega) (by unfold voF; omega) (by unfold fgF; omega)).trans ((w0 50 _ (by decide)).trans (hc k hk))
    · obtain ⟨c1, c2, -⟩ := ho.2.2 l hl
      obtain ⟨d1, d2, -⟩ := v3 l (Nat.zero_le _) (by omega)
      rw [f6.2.1 51 l (by unfold fgF; omega), f5.2.1 51 l (by unfold voF; omega), f4.2.1 51 l (by unfold cdF; omega), f6.2.1 52 l (by unfold fgF; omega), f5.2.1 52 l (by unfold voF; omega), f4.2.1 52 l (by unfold cdF; omega), d1, d2, y2 51 _ (by unfold ppF; omega), y2 52 _ (by unfold ppF; omega), w0 51 _ (by decide), w0 52 _ (by decide)]
      exact ⟨c1, c2⟩
    · rw [f6.2.1 68 _ (by unfold fgF; omega)]
      exact v5 l hl q (Nat.zero_le _) hq
end
