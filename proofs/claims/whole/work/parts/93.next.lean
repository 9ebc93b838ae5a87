/-! works: the model takes a token -/
section
variable {s s' s1 s2 : Sg} {T : Nat → Nat} {n p : Nat} {A B : Nat → Nat → Prop}
/-- the model's tape -/
def MTx (T : Nat → Nat) (n : Nat) (s : Sg) : Prop := zl_B s ∧ n ≤ 1000 ∧ mI s 46 3 = nI n ∧ ∀ k, k < n → mI s 47 k = nI (T k) ∧ T k < 127
theorem MTx.b (h : MTx T n s) : zl_B s := h.1
theorem MTx.f (h : MTx T n s) (f : FR A B s s') (h2 : ¬ A 46 3) (h43 : ∀ k, ¬ A 47 k) : MTx T n s' :=
  ⟨f.b h.1, h.2.1, (f.2.1 _ _ h2).trans h.2.2.1, fun k hk => ⟨(f.2.1 _ _ (h43 k)).trans (h.2.2.2 k hk).1, (h.2.2.2 k hk).2⟩⟩
def nAx (a k : Nat) : Prop := a = 46 ∧ ((4 ≤ k ∧ k ≤ 6) ∨ k = 8)
def nBx (a k : Nat) : Prop := a = 46 ∧ k = 7
theorem MTx.c (h : MTx T n s) (f : FR nAx nBx s s') : MTx T n s' := h.f f (fun e => by have := e.2; omega) (fun k e => absurd e.1 (by decide))
/-- the kind of a token, as the model has it -/
def mkd (k : Nat) : Nat := if k = 0 then 0 else if k = 1 then 4 else if k = 3 then 2 else if k ≤ 11 then 1 else 3
def MTk (s : Sg) (τ : Tok) : Prop := mI s 46 4 = nI τ.en ∧ mI s 46 5 = nI τ.st ∧ mI s 46 6 = nI (mkd τ.k) ∧ (τ.k = 3 → mI s 46 8 = nI τ.v) ∧ (τ.k = 2 ∨ (4 ≤ τ.k ∧ τ.k ≤ 11) → mL s 46 7 = lN τ.hw)
theorem m_sA (h : MTx T n s) {q : Nat} (hq : q ≤ n) : f_Mo_signAt (nI q) s = some (if q < n then nI (T q) else 0, s) := by
  have hn := h.2.1
  unfold f_Mo_signAt
  rw [f_ck_of h.b, h.2.2.1]
  by_cases c : q < n
  · rw [if_neg (nI_ge c (by omega)), f_ck_of (vp_in_nI (by omega) (by decide)), nI_clamp (by omega), (h.2.2.2 q c).1, if_pos c]
  · rw [if_pos (nI_le (by omega) (by omega)), if_neg c]
theorem m_sk : ∀ (f p F : Nat) (s : Sg), MTx T n s → p ≤ n → n ≤ p + f → f < F → mI s 46 4 = nI p → ∃ s', f_Mo_nextToken_h0 F s = f_Mo_nextToken_b52 s' ∧ FR nAx nBx s s' ∧ mI s' 46 4 = nI (run T n isB f p) := by
  intro f
  induction f with
  | zero =>
    intro p F s h hp hf hF h3
    obtain ⟨F, rfl⟩ : ∃ m, F = m + 1 := ⟨F - 1, by omega⟩
    obtain rfl : p = n := by omega
    refine ⟨s, ?_, FR.rf _ _ _, h3⟩
    show f_Mo_nextToken_b0 _ _ = _
    unfold f_Mo_nextToken_b0
    rw [f_ck_of h.b, h3, h.2.2.1, if_pos (nI_le (Nat.le_refl _) (by have := h.2.1; omega))]
  | succ f ih =>
    intro p F s h hp hf hF h3
    obtain ⟨F, rfl⟩ : ∃ m, F = m + 1 := ⟨F - 1, by omega⟩
    have hn := h.2.1
    show ∃ s', f_Mo_nextToken_b0 _ _ = _ ∧ _
    unfold f_Mo_nextToken_b0 run
    by_cases c : p < n
    · obtain ⟨e1, e2⟩ := h.2.2.2 p c
      rw [f_ck_of h.b, h3, h.2.2.1, if_neg (nI_ge c (by omega)), f_ck_of (vp_in_nI (by omega) (by decide)), nI_clamp (by omega), e1]
      have hgo : ∃ s', f_Mo_nextToken_b39 (f_Mo_nextToken_h0 F) s = f_Mo_nextToken_b52 s' ∧ FR nAx nBx s s' ∧ mI s' 46 4 = nI (run T n isB f (p + 1)) := by
        have f1 : FR nAx nBx s (uI s 46 4 (nI (p + 1))) := fr_uI s _ ⟨rfl, by decide⟩
        obtain ⟨s', e4, f4, h4⟩ := ih (p + 1) F _ (h.c f1) c (by omega) (by omega) (mI_at _ _ _ _)
        refine ⟨s', ?_, f1.tr f4, h4⟩
        unfold f_Mo_nextToken_b39
        rw [f_ck_of h.b, h3, nI_1]
        exact e4
      by_cases c1 : T p = 32
      · rw [if_pos (show nI (T p) = 32 by rw [c1]; rfl), if_pos ⟨c, isB_t.mpr (Or.inl c1)⟩]
        exact hgo
      · rw [if_neg (show ¬ nI (T p) = 32 from fun g => c1 ((nI_eq (b := 32) (by omega) (by decide)).mp g)), f_ck_of (vp_in_nI (by omega) (by decide))]
        by_cases c2 : T p = 10
        · rw [if_pos (show nI (T p) = 10 by rw [c2]; rfl), if_pos ⟨c, isB_t.mpr (Or.inr c2)⟩]
          exact hgo
        · rw [if_neg (show ¬ nI (T p) = 10 from fun g => c2 ((nI_eq (b := 10) (by omega) (by decide)).mp g)), if_neg (fun g => by have := isB_t.mp g.2; omega)]
          exact ⟨s, rfl, FR.rf _ _ _, h3⟩
    · obtain rfl : p = n := by omega
      rw [f_ck_of h.b, h3, h.2.2.1, if_pos (nI_le (Nat.le_refl _) (by omega)), if_neg (fun g => c g.1)]
      exact ⟨s, rfl, FR.rf _ _ _, h3⟩
theorem m_wl {st : Nat} : ∀ (f q F : Nat) (s : Sg), MTx T n s → q ≤ n → n ≤ q + f → f < F → st ≤ q → (∀ j, st ≤ j → j < q → isL (T j) = true) → mI s 46 4 = nI q → mI s 46 5 = nI st → (q - st ≤ 8 → mL s 46 7 = lN (hv (fun j => T (st + j)) (q - st))) →
    ∃ s', f_Mo_nextToken_h109 F s = f_Mo_nextToken_b188 s' ∧ FR nAx nBx s s' ∧ mI s' 46 4 = nI (run T n isL f q) ∧ mI s' 46 5 = nI st ∧ (run T n isL f q - st ≤ 8 → mL s' 46 7 = lN (hv (fun j => T (st + j)) (run T n isL f q - st))) := by
  intro f
  induction f with
  | zero =>
    intro q F s h hq hf hF hst hl h3 h5 h7
    obtain ⟨F, rfl⟩ : ∃ m, F = m + 1 := ⟨F - 1, by omega⟩
    obtain rfl : q = n := by omega
    refine ⟨s, ?_, FR.rf _ _ _, h3, h5, h7⟩
    show f_Mo_nextToken_b109 _ _ = _
    unfold f_Mo_nextToken_b109
    rw [f_ck_of h.b, h3, f_bd_of (m_sA h hq), if_neg (Nat.lt_irrefl _), if_pos (by decide)]
  | succ f ih =>
    intro q F s h hq hf hF hst hl h3 h5 h7
    obtain ⟨F, rfl⟩ : ∃ m, F = m + 1 := ⟨F - 1, by omega⟩
    have hn := h.2.1
    show ∃ s', f_Mo_nextToken_b109 _ _ = _ ∧ _
    unfold f_Mo_nextToken_b109 run
    by_cases c : q < n
    · obtain ⟨e1, e2⟩ := h.2.2.2 q c
      have hS : f_Mo_signAt (nI q) s = some (nI (T q), s) := by rw [m_sA h hq, if_pos c]
      rw [f_ck_of h.b, h3, f_bd_of hS]
      by_cases c1 : isL (T q) = true
      · have c2 := isL_t.mp c1
        have hnext : ∀ s5 : Sg, FR nAx nBx s s5 → mI s5 46 4 = nI q → mI s5 46 5 = nI st → (q + 1 - st ≤ 8 → mL s5 46 7 = lN (hv (fun j => T (st + j)) (q + 1 - st))) → ∃ s', f_Mo_nextToken_b175 (f_Mo_nextToken_h109 F) s5 = f_Mo_nextToken_b188 s' ∧ FR nAx nBx s s' ∧ mI s' 46 4 = nI (run T n isL f (q + 1)) ∧ mI s' 46 5 = nI st ∧ (run T n isL f (q + 1) - st ≤ 8 → mL s' 46 7 = lN (hv (fun j => T (st + j)) (run T n isL f (q + 1) - st))) := by
          intro s5 f5 p4 p5 p7
          have f6 : FR nAx nBx s5 (uI s5 46 4 (nI (q + 1))) := fr_uI s5 _ ⟨rfl, by decide⟩
          obtain ⟨s', e4, f4, g4, g5, g6⟩ := ih (q + 1) F (uI s5 46 4 (nI (q + 1))) ((h.c f5).c f6) c (by omega) (by omega) (by omega) (fun j h1 h2 => by
            by_cases e : j = q
            · rw [e]; exact c1
            · exact hl j h1 (by omega)) (mI_at _ _ _ _) ((mI_ne _ _ (by omega)).trans p5) p7
          refine ⟨s', ?_, (f5.tr f6).tr f4, g4, g5, g6⟩
          unfold f_Mo_nextToken_b175
          rw [f_ck_of (f5.b h.b), p4, nI_1]
          exact e4
        rw [if_neg (show ¬ nI (T q) < 97 from nI_nlt (b := 97) c2.1 (by omega)), f_ck_of h.b, h3, f_bd_of hS, if_neg (show ¬ (122 : Int32) < nI (T q) from nI_nlt (a := 122) c2.2 (by decide)), f_ck_of h.b, h3, h5, pk_sub hst, if_pos (show q < n ∧ isL (T q) = true from ⟨c, c1⟩)]
        by_cases c8 : 8 ≤ q - st
        · rw [if_pos (show (8 : Int32) ≤ nI (q - st) from nI_le (a := 8) c8 (by omega))]
          exact hnext s (FR.rf _ _ _) h3 h5 (fun h9 => absurd h9 (by omega))
        · rw [if_neg (show ¬ (8 : Int32) ≤ nI (q - st) from nI_ge (b := 8) (by omega) (by decide)), f_bd_of hS, f_ck_of h.b]
          refine hnext _ (fr_uL s _ ⟨rfl, rfl⟩) h3 h5 (fun h9 => ?_)
          rw [mL_at, h7 (by omega), show (27 : Int64) = lN 27 from rfl, lN_mul, nI_l (by omega), lN_add, show (96 : Int64) = lN 96 from rfl, lN_sub (by omega), show q + 1 - st = (q - st) + 1 by omega]
          show _ = lN (hv (fun j => T (st + j)) (q - st) * 27 + (T (st + (q - st)) - 96))
          rw [show st + (q - st) = q by omega, show hv (fun j => T (st + j)) (q - st) * 27 + T q - 96 = hv (fun j => T (st + j)) (q - st) * 27 + (T q - 96) by omega]
      · rw [if_neg (show ¬ (q < n ∧ isL (T q) = true) from fun g => c1 g.2)]
        have hnl : ¬ (97 ≤ T q ∧ T q ≤ 122) := fun g => c1 (isL_t.mpr g)
        by_cases d1 : T q < 97
        · rw [if_pos (show nI (T q) < 97 from nI_lt (b := 97) d1 (by decide))]
          exact ⟨s, rfl, FR.rf _ _ _, h3, h5, h7⟩
        · rw [if_neg (show ¬ nI (T q) < 97 from nI_nlt (b := 97) (by omega) (by omega)), f_ck_of h.b, h3, f_bd_of hS, if_pos (show (122 : Int32) < nI (T q) from nI_lt (a := 122) (by omega) (by omega))]
          exact ⟨s, rfl, FR.rf _ _ _, h3, h5, h7⟩
    · obtain rfl : q = n := by omega
      rw [f_ck_of h.b, h3, f_bd_of (m_sA h hq), if_neg c, if_pos (by decide), if_neg (fun g => c g.1)]
      exact ⟨s, rfl, FR.rf _ _ _, h3, h5, h7⟩
theorem m_nl {st : Nat} : ∀ (f q F : Nat) (s : Sg), MTx T n s → q ≤ n → n ≤ q + f → f < F → st ≤ q → (∀ j, st ≤ j → j < q → isD (T j) = true) → mI s 46 4 = nI q → mI s 46 5 = nI st → (q - st ≤ 4 → mI s 46 8 = nI (nv (fun j => T (st + j)) (q - st))) →
    ∃ s', f_Mo_nextToken_h224 F s = f_Mo_nextToken_b299 s' ∧ FR nAx nBx s s' ∧ mI s' 46 4 = nI (run T n isD f q) ∧ mI s' 46 5 = nI st ∧ (run T n isD f q - st ≤ 4 → mI s' 46 8 = nI (nv (fun j => T (st + j)) (run T n isD f q - st))) := by
  intro f
  induction f with
  | zero =>
    intro q F s h hq hf hF hst hl h3 h5 h7
    obtain ⟨F, rfl⟩ : ∃ m, F = m + 1 := ⟨F - 1, by omega⟩
    obtain rfl : q = n := by omega
    refine ⟨s, ?_, FR.rf _ _ _, h3, h5, h7⟩
    show f_Mo_nextToken_b224 _ _ = _
    unfold f_Mo_nextToken_b224
    rw [f_ck_of h.b, h3, f_bd_of (m_sA h hq), if_neg (Nat.lt_irrefl _), if_pos (by decide)]
  | succ f ih =>
    intro q F s h hq hf hF hst hl h3 h5 h7
    obtain ⟨F, rfl⟩ : ∃ m, F = m + 1 := ⟨F - 1, by omega⟩
    have hn := h.2.1
    show ∃ s', f_Mo_nextToken_b224 _ _ = _ ∧ _
    unfold f_Mo_nextToken_b224 run
    by_cases c : q < n
    · obtain ⟨e1, e2⟩ := h.2.2.2 q c
      have hS : f_Mo_signAt (nI q) s = some (nI (T q), s) := by rw [m_sA h hq, if_pos c]
      rw [f_ck_of h.b, h3, f_bd_of hS]
      by_cases c1 : isD (T q) = true
      · have c2 := isD_t.mp c1
        have hnext : ∀ s5 : Sg, FR nAx nBx s s5 → mI s5 46 4 = nI q → mI s5 46 5 = nI st → (q + 1 - st ≤ 4 → mI s5 46 8 = nI (nv (fun j => T (st + j)) (q + 1 - st))) → ∃ s', f_Mo_nextToken_b286 (f_Mo_nextToken_h224 F) s5 = f_Mo_nextToken_b299 s' ∧ FR nAx nBx s s' ∧ mI s' 46 4 = nI (run T n isD f (q + 1)) ∧ mI s' 46 5 = nI st ∧ (run T n isD f (q + 1) - st ≤ 4 → mI s' 46 8 = nI (nv (fun j => T (st + j)) (run T n isD f (q + 1) - st))) := by
          intro s5 f5 p4 p5 p7
          have f6 : FR nAx nBx s5 (uI s5 46 4 (nI (q + 1))) := fr_uI s5 _ ⟨rfl, by decide⟩
          obtain ⟨s', e4, f4, g4, g5, g6⟩ := ih (q + 1) F (uI s5 46 4 (nI (q + 1))) ((h.c f5).c f6) c (by omega) (by omega) (by omega) (fun j h1 h2 => by
            by_cases e : j = q
            · rw [e]; exact c1
            · exact hl j h1 (by omega)) (mI_at _ _ _ _) ((mI_ne _ _ (by omega)).trans p5) (fun h9 => (mI_ne _ _ (by omega)).trans (p7 h9))
          refine ⟨s', ?_, (f5.tr f6).tr f4, g4, g5, g6⟩
          unfold f_Mo_nextToken_b286
          rw [f_ck_of (f5.b h.b), p4, nI_1]
          exact e4
        rw [if_neg (show ¬ nI (T q) < 48 from nI_nlt (b := 48) c2.1 (by omega)), f_ck_of h.b, h3, f_bd_of hS, if_neg (show ¬ (57 : Int32) < nI (T q) from nI_nlt (a := 57) c2.2 (by decide)), f_ck_of h.b, h3, h5, pk_sub hst, if_pos (show q < n ∧ isD (T q) = true from ⟨c, c1⟩)]
        by_cases c8 : 4 ≤ q - st
        · rw [if_pos (show (4 : Int32) ≤ nI (q - st) from nI_le (a := 4) c8 (by omega))]
          exact hnext s (FR.rf _ _ _) h3 h5 (fun h9 => absurd h9 (by omega))
        · rw [if_neg (show ¬ (4 : Int32) ≤ nI (q - st) from nI_ge (b := 4) (by omega) (by decide)), f_bd_of hS, f_ck_of h.b]
          refine hnext _ (fr_uI s _ ⟨rfl, by decide⟩) ((mI_ne _ _ (by omega)).trans h3) ((mI_ne _ _ (by omega)).trans h5) (fun h9 => ?_)
          rw [mI_at, h7 (by omega), show (10 : Int32) = nI 10 from rfl, nI_mul, nI_add, show (48 : Int32) = nI 48 from rfl, pk_sub (by omega), show q + 1 - st = (q - st) + 1 by omega]
          show _ = nI (nv (fun j => T (st + j)) (q - st) * 10 + (T (st + (q - st)) - 48))
          rw [show st + (q - st) = q by omega, show nv (fun j => T (st + j)) (q - st) * 10 + T q - 48 = nv (fun j => T (st + j)) (q - st) * 10 + (T q - 48) by omega]
      · rw [if_neg (show ¬ (q < n ∧ isD (T q) = true) from fun g => c1 g.2)]
        have hnl : ¬ (48 ≤ T q ∧ T q ≤ 57) := fun g => c1 (isD_t.mpr g)
        by_cases d1 : T q < 48
        · rw [if_pos (show nI (T q) < 48 from nI_lt (b := 48) d1 (by decide))]
          exact ⟨s, rfl, FR.rf _ _ _, h3, h5, h7⟩
        · rw [if_neg (show ¬ nI (T q) < 48 from nI_nlt (b := 48) (by omega) (by omega)), f_ck_of h.b, h3, f_bd_of hS, if_pos (show (57 : Int32) < nI (T q) from nI_lt (a := 57) (by omega) (by omega))]
          exact ⟨s, rfl, FR.rf _ _ _, h3, h5, h7⟩
    · obtain rfl : q = n := by omega
      rw [f_ck_of h.b, h3, f_bd_of (m_sA h hq), if_neg c, if_pos (by decide), if_neg (fun g => c g.1)]
      exact ⟨s, rfl, FR.rf _ _ _, h3, h5, h7⟩
theorem m_next (h : MTx T n s) (hp : p ≤ n) (h3 : mI s 46 4 = nI p) : ∃ s', f_Mo_nextToken s = some ((), s') ∧ FR nAx nBx s s' ∧ MTk s' (tkn T n p) := by
  have hn := h.2.1
  obtain ⟨s1, e1, f1, p1⟩ := m_sk (n - p) p zl_fl s h hp (by omega) (by show n - p < 4096; omega) h3
  have hsn := @run_n T n isB (n - p) p hp
  unfold f_Mo_nextToken
  rw [e1]
  have h1 := h.c f1
  unfold tkn
  generalize run T n isB (n - p) p = st at *
  have f2 : FR nAx nBx s1 (uI (uL (uI s1 46 5 (nI st)) 46 7 0) 46 8 0) := ((fr_uI s1 _ ⟨rfl, by decide⟩).tr (fr_uL _ _ ⟨rfl, rfl⟩)).tr (fr_uI _ _ ⟨rfl, by decide⟩)
  have h2 := h1.c f2
  have q2 : mI (uI (uL (uI s1 46 5 (nI st)) 46 7 0) 46 8 0) 46 3 = nI n := h2.2.2.1
  have q3 : mI (uI (uL (uI s1 46 5 (nI st)) 46 7 0) 46 8 0) 46 4 = nI st := (mI_ne _ _ (by omega)).trans ((mI_ne s1 (nI st) (by omega) : mI (uI s1 46 5 (nI st)) 46 4 = mI s1 46 4).trans p1)
  have q5 : mI (uI (uL (uI s1 46 5 (nI st)) 46 7 0) 46 8 0) 46 5 = nI st := (mI_ne _ _ (by omega)).trans (mI_at s1 46 5 (nI st))
  have q7 : mL (uI (uL (uI s1 46 5 (nI st)) 46 7 0) 46 8 0) 46 7 = lN 0 := mL_at _ _ _ _
  have q8 : mI (uI (uL (uI s1 46 5 (nI st)) 46 7 0) 46 8 0) 46 8 = nI 0 := mI_at _ _ _ _
  have hf2 := f1.tr f2
  unfold f_Mo_nextToken_b52
  rw [f_ck_of h1.b, p1]
  show ∃ s', (if mI (uI (uL (uI s1 46 5 (nI st)) 46 7 0) 46 8 0) 46 4 = mI (uI (uL (uI s1 46 5 (nI st)) 46 7 0) 46 8 0) 46 3 then _ else _) = _ ∧ _
  generalize uI (uL (uI s1 46 5 (nI st)) 46 7 0) 46 8 0 = s2 at *
  rw [q2, q3]
  by_cases c : st < n
  · obtain ⟨t1, t2⟩ := h2.2.2.2 st c
    rw [if_neg (fun g => by have := (nI_eq (by omega) (by omega)).mp g; omega), if_pos c, f_ck_of (vp_in_nI (by omega) (by decide)), nI_clamp (by omega), t1]
    by_cases cl : isL (T st) = true
    · have c2 := isL_t.mp cl
      rw [if_neg (show ¬ nI (T st) < 97 from nI_nlt (b := 97) c2.1 (by omega)), if_neg (show ¬ (122 : Int32) < nI (T st) from nI_nlt (a := 122) c2.2 (by decide)), if_pos cl]
      obtain ⟨s4, e4, f4, g3, g5, g7⟩ := m_wl (st := st) (n - st) st zl_fl _ h2 (by omega) (by omega) (by show n - st < 4096; omega) (Nat.le_refl _) (fun j a b => absurd b (by omega)) q3 q5 (fun _ => by rw [Nat.sub_self]; exact q7)
      have hle := @run_le T n isL (n - st) st
      have hen := @run_n T n isL (n - st) st hsn
      have f5 := hf2.tr f4
      have h4 := h.c f5
      generalize run T n isL (n - st) st = e at *
      refine ⟨uI s4 46 6 (nI (if e - st ≤ 8 then 1 else 4)), ?_, f5.tr (fr_uI s4 _ ⟨rfl, by decide⟩), (mI_ne _ _ (by omega)).trans g3, (mI_ne _ _ (by omega)).trans g5, ?_, fun hk => ?_, fun hk => ?_⟩
      · rw [e4]
        unfold f_Mo_nextToken_b188 f_Mo_nextToken_b208
        rw [f_ck_of h4.b, g3, g5, pk_sub hle]
        by_cases c8 : e - st ≤ 8
        · rw [if_pos (show nI (e - st) ≤ 8 from nI_le (b := 8) c8 (by decide)), f_ck_of h4.b, if_pos c8]
          rfl
        · rw [if_neg (show ¬ nI (e - st) ≤ 8 from nI_ge (a := 8) (by omega) (by omega)), f_ck_of h4.b, if_neg c8]
          rfl
      · rw [mI_at]
        show nI (if e - st ≤ 8 then 1 else 4) = nI (mkd (if e - st ≤ 8 then kwd (pv (fun j => T (st + j)) (e - st)) else 1))
        have := kwd_r (pv (fun j => T (st + j)) (e - st))
        by_cases c8 : e - st ≤ 8
        · rw [if_pos c8, if_pos c8]
          unfold mkd
          rw [if_neg (by omega), if_neg (by omega), if_neg (by omega), if_pos (by omega)]
        · rw [if_neg c8, if_neg c8]
          rfl
      · exfalso
        have hk' : (if e - st ≤ 8 then kwd (pv (fun j => T (st + j)) (e - st)) else 1) = 3 := hk
        have := kwd_r (pv (fun j => T (st + j)) (e - st))
        split at hk' <;> omega
      · have hk' : (if e - st ≤ 8 then kwd (pv (fun j => T (st + j)) (e - st)) else 1) = 2 ∨ (4 ≤ (if e - st ≤ 8 then kwd (pv (fun j => T (st + j)) (e - st)) else 1) ∧ (if e - st ≤ 8 then kwd (pv (fun j => T (st + j)) (e - st)) else 1) ≤ 11) := hk
        have c8 : e - st ≤ 8 := by
          refine Nat.le_of_not_lt fun h9 => ?_
          simp only [if_neg (show ¬ e - st ≤ 8 by omega)] at hk'
          omega
        exact g7 c8
    · have hnl : ¬ (97 ≤ T st ∧ T st ≤ 122) := fun g => cl (isL_t.mpr g)
      rw [if_neg cl]
      have h212 : ∀ z, f_Mo_nextToken_b212 (nI (T st)) s2 = z → (if nI (T st) < 97 then f_Mo_nextToken_b212 (nI (T st)) s2 else if (122 : Int32) < nI (T st) then f_Mo_nextToken_b212 (nI (T st)) s2 else f_Mo_nextToken_h109 zl_fl s2) = z := by
        intro z hz
        by_cases d1 : T st < 97
        · rw [if_pos (show nI (T st) < 97 from nI_lt (b := 97) d1 (by decide))]; exact hz
        · rw [if_neg (show ¬ nI (T st) < 97 from nI_nlt (b := 97) (by omega) (by omega)), if_pos (show (122 : Int32) < nI (T st) from nI_lt (a := 122) (by omega) (by omega))]; exact hz
      by_cases cd : isD (T st) = true
      · have c2 := isD_t.mp cd
        rw [if_pos cd]
        obtain ⟨s4, e4, f4, g3, g5, g7⟩ := m_nl (st := st) (n - st) st zl_fl _ h2 (by omega) (by omega) (by show n - st < 4096; omega) (Nat.le_refl _) (fun j a b => absurd b (by omega)) q3 q5 (fun _ => by rw [Nat.sub_self]; exact q8)
        have hle := @run_le T n isD (n - st) st
        have hen := @run_n T n isD (n - st) st hsn
        have f5 := hf2.tr f4
        have h4 := h.c f5
        generalize run T n isD (n - st) st = e at *
        refine ⟨uI s4 46 6 (nI (if e - st ≤ 4 then 2 else 4)), h212 _ ?_, f5.tr (fr_uI s4 _ ⟨rfl, by decide⟩), (mI_ne _ _ (by omega)).trans g3, (mI_ne _ _ (by omega)).trans g5, ?_, fun hk => ?_, fun hk => ?_⟩
        · unfold f_Mo_nextToken_b212
          rw [if_neg (show ¬ nI (T st) < 48 from nI_nlt (b := 48) c2.1 (by omega)), if_neg (show ¬ (57 : Int32) < nI (T st) from nI_nlt (a := 57) c2.2 (by decide)), e4]
          unfold f_Mo_nextToken_b299 f_Mo_nextToken_b318
          rw [f_ck_of h4.b, g3, g5, pk_sub hle]
          by_cases c8 : e - st ≤ 4
          · rw [if_pos (show nI (e - st) ≤ 4 from nI_le (b := 4) c8 (by decide)), f_ck_of h4.b, if_pos c8]
            rfl
          · rw [if_neg (show ¬ nI (e - st) ≤ 4 from nI_ge (a := 4) (by omega) (by omega)), f_ck_of h4.b, if_neg c8]
            rfl
        · rw [mI_at]
          show nI (if e - st ≤ 4 then 2 else 4) = nI (mkd (if e - st ≤ 4 then 3 else 1))
          by_cases c8 : e - st ≤ 4
          · rw [if_pos c8, if_pos c8]; rfl
          · rw [if_neg c8, if_neg c8]; rfl
        · have hk' : (if e - st ≤ 4 then 3 else 1) = 3 := hk
          have c8 : e - st ≤ 4 := by
            refine Nat.le_of_not_lt fun h9 => ?_
            rw [if_neg (by omega)] at hk'
            omega
          exact (mI_ne _ _ (by omega)).trans (g7 c8)
        · exfalso
          have hk' : (if e - st ≤ 4 then 3 else 1) = 2 ∨ (4 ≤ (if e - st ≤ 4 then 3 else 1) ∧ (if e - st ≤ 4 then 3 else 1) ≤ 11) := hk
          split at hk' <;> omega
      · have hnd : ¬ (48 ≤ T st ∧ T st ≤ 57) := fun g => cd (isD_t.mpr g)
        rw [if_neg cd]
        have f6 : FR nAx nBx s2 (uI (uI s2 46 4 (nI (st + 1))) 46 6 (nI (if isS (T st) = true then 3 else 4))) := (fr_uI s2 _ ⟨rfl, by decide⟩).tr (fr_uI _ _ ⟨rfl, by decide⟩)
        have hb4 : zl_B (uI s2 46 4 (nI (st + 1))) := h2.b
        have hS := @isS_t (T st)
        refine ⟨_, h212 _ ?_, hf2.tr f6, (mI_ne _ _ (by omega)).trans (mI_at _ _ _ _), (mI_ne _ _ (by omega)).trans ((mI_ne _ _ (by omega)).trans q5), ?_, fun hk => ?_, fun hk => ?_⟩
        · have h322 : f_Mo_nextToken_b322 (nI (T st)) s2 = some ((), uI (uI s2 46 4 (nI (st + 1))) 46 6 (nI (if isS (T st) = true then 3 else 4))) := by
            have e363 : isS (T st) = true → f_Mo_nextToken_b363 (uI s2 46 4 (nI (st + 1))) = some ((), uI (uI s2 46 4 (nI (st + 1))) 46 6 (nI (if isS (T st) = true then 3 else 4))) := fun g => by
              unfold f_Mo_nextToken_b363 f_Mo_nextToken_b368
              rw [f_ck_of hb4, if_pos g]
              rfl
            have e367 : ¬ isS (T st) = true → f_Mo_nextToken_b367 (uI s2 46 4 (nI (st + 1))) = some ((), uI (uI s2 46 4 (nI (st + 1))) 46 6 (nI (if isS (T st) = true then 3 else 4))) := fun g => by
              unfold f_Mo_nextToken_b367 f_Mo_nextToken_b368
              rw [f_ck_of hb4, if_neg g]
              rfl
            have e345 : ¬ (40 ≤ T st ∧ T st ≤ 43) → f_Mo_nextToken_b345 (nI (T st)) (uI s2 46 4 (nI (st + 1))) = some ((), uI (uI s2 46 4 (nI (st + 1))) 46 6 (nI (if isS (T st) = true then 3 else 4))) := fun g => by
              unfold f_Mo_nextToken_b345
              by_cases g1 : T st = 45
              · rw [if_pos (show nI (T st) = 45 by rw [g1]; rfl)]
                exact e363 (hS.mpr (by omega))
              · rw [if_neg (show ¬ nI (T st) = 45 from fun q => g1 ((nI_eq (b := 45) (by omega) (by decide)).mp q))]
                by_cases g2 : T st < 59
                · rw [if_pos (show nI (T st) < 59 from nI_lt (b := 59) g2 (by decide))]
                  exact e367 (fun q => by have := hS.mp q; omega)
                · rw [if_neg (show ¬ nI (T st) < 59 from nI_nlt (b := 59) (by omega) (by omega))]
                  by_cases g3 : 61 < T st
                  · rw [if_pos (show (61 : Int32) < nI (T st) from nI_lt (a := 61) g3 (by omega))]
                    exact e367 (fun q => by have := hS.mp q; omega)
                  · rw [if_neg (show ¬ (61 : Int32) < nI (T st) from nI_nlt (a := 61) (by omega) (by decide))]
                    exact e363 (hS.mpr (by omega))
            unfold f_Mo_nextToken_b322
            rw [f_ck_of h2.b, q3, nI_1]
            show (if nI (T st) < 40 then f_Mo_nextToken_b345 (nI (T st)) (uI s2 46 4 (nI (st + 1))) else if nI (T st) ≤ 43 then f_Mo_nextToken_b363 (uI s2 46 4 (nI (st + 1))) else f_Mo_nextToken_b345 (nI (T st)) (uI s2 46 4 (nI (st + 1)))) = _
            by_cases g1 : T st < 40
            · rw [if_pos (show nI (T st) < 40 from nI_lt (b := 40) g1 (by decide))]
              exact e345 (by omega)
            · rw [if_neg (show ¬ nI (T st) < 40 from nI_nlt (b := 40) (by omega) (by omega))]
              by_cases g2 : T st ≤ 43
              · rw [if_pos (show nI (T st) ≤ 43 from nI_le (b := 43) g2 (by decide))]
                exact e363 (hS.mpr (by omega))
              · rw [if_neg (show ¬ nI (T st) ≤ 43 from nI_ge (a := 43) (by omega) (by omega))]
                exact e345 (by omega)
          unfold f_Mo_nextToken_b212
          by_cases d1 : T st < 48
          · rw [if_pos (show nI (T st) < 48 from nI_lt (b := 48) d1 (by decide))]; exact h322
          · rw [if_neg (show ¬ nI (T st) < 48 from nI_nlt (b := 48) (by omega) (by omega)), if_pos (show (57 : Int32) < nI (T st) from nI_lt (a := 57) (by omega) (by omega))]; exact h322
        · rw [mI_at]
          show nI (if isS (T st) = true then 3 else 4) = nI (mkd (if isS (T st) = true then T st else 1))
          by_cases cs : isS (T st) = true
          · have := hS.mp cs
            rw [if_pos cs, if_pos cs]
            unfold mkd
            rw [if_neg (by omega), if_neg (by omega), if_neg (by omega), if_neg (by omega)]
          · rw [if_neg cs, if_neg cs]; rfl
        · exfalso
          have hk' : (if isS (T st) = true then T st else 1) = 3 := hk
          split at hk'
          · rename_i cs; have := hS.mp cs; omega
          · omega
        · exfalso
          have hk' : (if isS (T st) = true then T st else 1) = 2 ∨ (4 ≤ (if isS (T st) = true then T st else 1) ∧ (if isS (T st) = true then T st else 1) ≤ 11) := hk
          by_cases cs : isS (T st) = true
          · simp only [if_pos cs] at hk'
            have := hS.mp cs
            omega
          · simp only [if_neg cs] at hk'
            omega
  · obtain rfl : st = n := by omega
    rw [if_pos rfl, if_neg c]
    exact ⟨_, rfl, hf2.tr (fr_uI s2 _ ⟨rfl, by decide⟩), (mI_ne _ _ (by omega)).trans q3, (mI_ne _ _ (by omega)).trans q5, mI_at _ _ _ _, fun hk => absurd hk (by decide : ¬ (0 : Nat) = 3), fun hk => absurd hk (by decide : ¬ ((0 : Nat) = 2 ∨ (4 ≤ 0 ∧ 0 ≤ 11)))⟩
end
