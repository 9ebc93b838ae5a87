/-! works: the model reads a sum -/
section
variable {s s' s1 s2 : Sg} {T : Nat → Nat} {n p c d d' : Nat} {e : Nm} {τ : Tok}
theorem kwd_4 {a : Nat} : kwd a = 4 ↔ a = 123581014175598 := by
  unfold kwd
  constructor
  · intro h
    repeat' split at h
    all_goals omega
  · rintro rfl; rfl
theorem kwd_5 {a : Nat} : kwd a = 5 ↔ a = 427071599731 := by
  unfold kwd
  constructor
  · intro h
    repeat' split at h
    all_goals omega
  · rintro rfl; rfl
theorem kwd_6 {a : Nat} : kwd a = 6 ↔ a = 499967946343 := by
  unfold kwd
  constructor
  · intro h
    repeat' split at h
    all_goals omega
  · rintro rfl; rfl
theorem kwd_7 {a : Nat} : kwd a = 7 ↔ a = 469785863539 := by
  unfold kwd
  constructor
  · intro h
    repeat' split at h
    all_goals omega
  · rintro rfl; rfl
theorem kwd_8 {a : Nat} : kwd a = 8 ↔ a = 2003399784 := by
  unfold kwd
  constructor
  · intro h
    repeat' split at h
    all_goals omega
  · rintro rfl; rfl
theorem kwd_9 {a : Nat} : kwd a = 9 ↔ a = 7237492 := by
  unfold kwd
  constructor
  · intro h
    repeat' split at h
    all_goals omega
  · rintro rfl; rfl
theorem kwd_10 {a : Nat} : kwd a = 10 ↔ a = 6385252 := by
  unfold kwd
  constructor
  · intro h
    repeat' split at h
    all_goals omega
  · rintro rfl; rfl
theorem kwd_11 {a : Nat} : kwd a = 11 ↔ a = 28530 := by
  unfold kwd
  constructor
  · intro h
    repeat' split at h
    all_goals omega
  · rintro rfl; rfl
def mE (d d' c a k : Nat) : Prop := (a = 46 ∧ ((4 ≤ k ∧ k ≤ 6) ∨ k = 8 ∨ k = 9 ∨ k = 21)) ∨ (a = 55 ∧ 1000 + c ≤ k) ∨ (a = 56 ∧ d < k) ∨ (a = 57 ∧ d' ≤ k)
def MN (e : Nm) (s : Sg) : Prop := mI s 46 22 = nI e.np ∧ mI s 46 23 = nI e.nt ∧ (∀ i, i < e.np → mL s 48 (7 + i) = lN (e.pn i).2) ∧ (∀ i, i < e.nt → mL s 48 (11 + i) = lN (e.tn i).2)
def ME (T : Nat → Nat) (n : Nat) (e : Nm) (c : Nat) (τ : Tok) (s : Sg) : Prop := MTx T n s ∧ MN e s ∧ MTk s τ ∧ mI s 46 21 = nI (1000 + c)
theorem MN.f {A B : Nat → Nat → Prop} (h : MN e s) (f : FR A B s s') (h2 : ¬ A 46 22) (h3 : ¬ A 46 23) (h48 : ∀ k, ¬ B 48 k) : MN e s' := by
  obtain ⟨a, b, c, d⟩ := h
  exact ⟨(f.2.1 _ _ h2).trans a, (f.2.1 _ _ h3).trans b, fun i hi => (f.2.2 _ _ (h48 _)).trans (c i hi), fun i hi => (f.2.2 _ _ (h48 _)).trans (d i hi)⟩
theorem fr_nA (f : FR nAx nBx s s') (d d' c : Nat) : FR (mE d d' c) nBx s s' := f.mo (fun a k h => Or.inl ⟨h.1, h.2.elim Or.inl (fun q => Or.inr (Or.inl q))⟩) (fun _ _ h => h)
theorem fr_mE {d1 d1' c1 : Nat} (f : FR (mE d1 d1' c1) nBx s s') (h1 : d ≤ d1) (h2 : d' ≤ d1') (h3 : c ≤ c1) : FR (mE d d' c) nBx s s' := f.mo (fun a k h => by unfold mE at h ⊢; omega) (fun _ _ h => h)
theorem MTx.ee (h : MTx T n s) (f : FR (mE d d' c) nBx s s') : MTx T n s' := h.f f (by unfold mE; omega) (fun k => by unfold mE; omega)
theorem MN.ee (h : MN e s) (f : FR (mE d d' c) nBx s s') : MN e s' := h.f f (by unfold mE; omega) (by unfold mE; omega) (fun k => by unfold nBx; omega)
theorem me_b (h : ME T n e c τ s) : zl_B s := h.1.b
theorem me_next (h : ME T n e c τ s) (ht : TG T n τ) : ∃ s', f_Mo_nextToken s = some ((), s') ∧ FR nAx nBx s s' ∧ ME T n e c (tkn T n τ.en) s' := by
  obtain ⟨p, ht⟩ := ht
  obtain ⟨s1, e1, f1, k1⟩ := m_next h.1 ht.2.2.1 h.2.2.1.1
  exact ⟨s1, e1, f1, h.1.c f1, h.2.1.ee (fr_nA f1 0 0 0), k1, (f1.2.1 46 21 (by unfold nAx; omega)).trans h.2.2.2⟩
theorem me_fails (h : ME T n e c τ s) (d d' j : Nat) : ∃ s', f_Mo_fails (nI j) s = some (0, s') ∧ FR (mE d d' c) nBx s s' ∧ mI s' 46 9 = nI (j + 16 * τ.st) := by
  refine ⟨uI s 46 9 (nI (j + 16 * τ.st)), ?_, fr_uI s _ (Or.inl ⟨rfl, Or.inr (Or.inr (Or.inl rfl))⟩), mI_at _ _ _ _⟩
  unfold f_Mo_fails
  rw [f_ck_of h.1.b, h.2.2.1.2.1, show (16 : Int32) = nI 16 from rfl, nI_mul, nI_add]
theorem me_failN (h : ME T n e c τ s) (d d' j : Nat) : ∃ s', (f_bd (f_Mo_fails (nI j) s) fun r41 s42 => f_ck (narrow FieldType.boolean (.int r41) = .int r41) <| some (r41, s42)) = some (0, s') ∧ FR (mE d d' c) nBx s s' ∧ mI s' 46 9 = nI (j + 16 * τ.st) := by
  obtain ⟨s1, e1, f1, z1⟩ := me_fails h d d' j
  refine ⟨s1, ?_, f1, z1⟩
  rw [f_bd_of e1, f_ck_of (by decide)]
theorem me_puts (h : ME T n e c τ s) (hc : c < 1000) (d d' x : Nat) : ∃ s', f_Mo_puts (nI x) s = some ((), s') ∧ FR (mE d d' c) nBx s s' ∧ ME T n e (c + 1) τ s' ∧ mI s' 55 (1000 + c) = nI x ∧ (∀ a k, a ≠ 46 → a ≠ 55 → mI s' a k = mI s a k) := by
  have f1 : FR (mE d d' c) nBx s (uI (uI s 55 (1000 + c) (nI x)) 46 21 (nI (1000 + (c + 1)))) := (fr_uI s _ (Or.inr (Or.inl ⟨rfl, Nat.le_refl _⟩))).tr (fr_uI _ _ (Or.inl ⟨rfl, Or.inr (Or.inr (Or.inr rfl))⟩))
  obtain ⟨h1, h3, ⟨t1, t2, t3, t4, t5⟩, h5⟩ := h
  have g : ∀ k, k ≠ 21 → mI (uI (uI s 55 (1000 + c) (nI x)) 46 21 (nI (1000 + (c + 1)))) 46 k = mI s 46 k := fun k hk => by rw [mI_ne _ _ (by omega), mI_ne _ _ (by omega)]
  refine ⟨_, ?_, f1, ⟨h1.ee f1, h3.ee f1, ⟨(g 4 (by decide)).trans t1, (g 5 (by decide)).trans t2, (g 6 (by decide)).trans t3, fun q => (g 8 (by decide)).trans (t4 q), t5⟩, mI_at _ _ _ _⟩, ?_, fun a k ha hb => ?_⟩
  · unfold f_Mo_puts
    rw [f_ck_of h1.b, h5, f_ck_of (vp_in_nI (by omega) (by decide)), nI_clamp (by omega)]
    have : mI (uI s 55 (1000 + c) (nI x)) 46 21 = nI (1000 + c) := by rw [mI_ne _ _ (by omega)]; exact h5
    simp only [this, nI_1]
    rfl
  · rw [mI_ne _ _ (by omega)]; exact mI_at _ _ _ _
  · rw [mI_ne _ _ (by omega), mI_ne _ _ (by omega)]
theorem mkd_1 {k : Nat} : mkd k = 1 ↔ (k = 2 ∨ (4 ≤ k ∧ k ≤ 11)) := by
  unfold mkd
  repeat' split
  all_goals omega
theorem mkd_2 {k : Nat} : mkd k = 2 ↔ k = 3 := by
  unfold mkd
  repeat' split
  all_goals omega
theorem mkd_3 {k : Nat} : mkd k = 3 ↔ 12 ≤ k := by
  unfold mkd
  repeat' split
  all_goals omega
theorem mkd_0 {k : Nat} : mkd k = 0 ↔ k = 0 := by
  unfold mkd
  repeat' split
  all_goals omega
theorem mkd_b (k : Nat) : mkd k < 5 := by
  unfold mkd
  repeat' split
  all_goals omega
theorem me_6 (h : ME T n e c τ s) (j : Nat) (hj : j < 2 ^ 31) : mI s 46 6 = nI j ↔ mkd τ.k = j := by
  rw [h.2.2.1.2.2.1]
  exact nI_eq (by have := mkd_b τ.k; omega) hj
/-- a word of the language -/
theorem me_word (h : ME T n e c τ s) (ht : TG T n τ) {kw A B : Nat} (hw : wOK A B) (hk : ∀ a, kwd a = kw ↔ a = A) (h4 : 4 ≤ kw ∧ kw ≤ 11) : f_Mo_isWord (lN B) s = some (if τ.k = kw then 1 else 0, s) := by
  obtain ⟨p, ht⟩ := ht
  unfold f_Mo_isWord
  rw [f_ck_of h.1.b]
  by_cases c1 : τ.k = 2 ∨ (4 ≤ τ.k ∧ τ.k ≤ 11)
  · rw [if_pos (show mI s 46 6 = 1 from (me_6 h 1 (by decide)).mpr (mkd_1.mpr c1)), h.2.2.1.2.2.2.2 c1]
    obtain ⟨w1, w2⟩ := ht.2.2.2.2.1 c1
    have w3 := wOK_63 w1
    have w4 := wOK_63 hw
    by_cases q : τ.k = kw
    · have : τ.hw = B := (wOK_eq w1 hw).mp ((hk _).mp (by rw [← w2]; exact q))
      rw [if_pos ((lN_ne (by omega) (by omega)).mpr this), if_pos q]
    · rw [if_neg (fun g => q (by rw [w2]; exact (hk _).mpr ((wOK_eq w1 hw).mpr ((lN_ne (by omega) (by omega)).mp g)))), if_neg q]
  · rw [if_neg (show ¬ mI s 46 6 = 1 from fun q => c1 (mkd_1.mp ((me_6 h 1 (by decide)).mp q))), if_neg (by omega)]
theorem me_sign (h : ME T n e c τ s) (ht : TG T n τ) {j : Nat} (hj : isS j = true) : f_Mo_isSign (nI j) s = some (if τ.k = j then 1 else 0, s) := by
  obtain ⟨p, ht⟩ := ht
  have hn := h.1.2.1
  have hj2 := isS_t.mp hj
  unfold f_Mo_isSign
  rw [f_ck_of h.1.b]
  by_cases c1 : 12 ≤ τ.k
  · have h0 := ht.2.2.2.1 (by omega)
    have h1 := ht.2.2.1
    have h2 := ht.2.2.2.2.2.2.1 c1
    have h3 := ht.2.2.2.2.2.2.2
    rw [if_pos (show mI s 46 6 = 3 from (me_6 h 3 (by decide)).mpr (mkd_3.mpr c1)), h.2.2.1.2.1, f_ck_of (vp_in_nI (by omega) (by decide)), nI_clamp (by omega), (h.1.2.2.2 τ.st (by omega)).1, h2.1]
    by_cases q : τ.k = j
    · rw [if_pos (by rw [q]), if_pos q]
    · rw [if_neg (fun g => q ((nI_eq (by omega) (by omega)).mp g)), if_neg q]
  · rw [if_neg (show ¬ mI s 46 6 = 3 from fun q => c1 (mkd_3.mp ((me_6 h 3 (by decide)).mp q))), if_neg (by omega)]
theorem me_kept (h : ME T n e c τ s) (ht : TG T n τ) (h1 : τ.k = 2 ∨ (4 ≤ τ.k ∧ τ.k ≤ 11)) : f_Mo_isKept s = some (if τ.k = 2 then 0 else 1, s) := by
  obtain ⟨p, ht⟩ := ht
  obtain ⟨w1, w2⟩ := ht.2.2.2.2.1 h1
  have w3 := wOK_63 w1
  have e1 : ∀ {A B : Nat}, wOK A B → ((lg_cmp (lN τ.hw) (lN B) = 0) = (τ.pw = A)) := fun {A B} hw => by
    have w4 := wOK_63 hw
    exact propext ((lN_ne (by omega) (by omega)).trans (wOK_eq w1 hw).symm)
  unfold f_Mo_isKept f_Mo_isKept_b88
  rw [f_ck_of h.1.b, h.2.2.1.2.2.2.2 h1, w2]
  unfold kwd
  simp only [show (232608281 : Int64) = lN 232608281 from rfl, show (1903978 : Int64) = lN 1903978 from rfl, show (10793230 : Int64) = lN 10793230 from rfl, show (6936589 : Int64) = lN 6936589 from rfl, show (459818 : Int64) = lN 459818 from rfl, show (10631 : Int64) = lN 10631 from rfl, show (1111 : Int64) = lN 1111 from rfl, show (423 : Int64) = lN 423 from rfl, e1 wk_4, e1 wk_5, e1 wk_6, e1 wk_7, e1 wk_8, e1 wk_9, e1 wk_10, e1 wk_11]
  repeat' split
  all_goals first | rfl | omega
theorem me_name (h : ME T n e c τ s) (ht : TG T n τ) : f_Mo_isName s = some (if τ.k = 2 then 1 else 0, s) := by
  unfold f_Mo_isName
  rw [f_ck_of h.1.b]
  by_cases c1 : τ.k = 2 ∨ (4 ≤ τ.k ∧ τ.k ≤ 11)
  · rw [if_pos (show mI s 46 6 = 1 from (me_6 h 1 (by decide)).mpr (mkd_1.mpr c1)), f_bd_of (me_kept h ht c1)]
    by_cases q : τ.k = 2
    · rw [if_pos q, if_pos rfl, if_pos q]
    · rw [if_neg q, if_neg (show ¬ (1 : Int32) = 0 by decide), if_neg q]
  · rw [if_neg (show ¬ mI s 46 6 = 1 from fun q => c1 (mkd_1.mp ((me_6 h 1 (by decide)).mp q))), if_neg (by omega)]
/-- whose a word is -/
theorem m_whoT (h : ME T n e c τ s) (hn : NmOK e) {a b : Nat} (ha : wOK a b) (h7 : mL s 46 7 = lN b) : ∀ (k i F : Nat), i + k = e.nt → k < F → f_Mo_whose_h37 F (nI i) s = some (match fnd (fun i => (e.tn i).1) a k i with
    | some j => nI (4 + j)
    | none => -1, s) := by
  intro k
  induction k with
  | zero =>
    intro i F hi hF
    obtain ⟨F, rfl⟩ : ∃ f, F = f + 1 := ⟨F - 1, by omega⟩
    obtain rfl : i = e.nt := by omega
    show f_Mo_whose_b37 _ _ _ = _
    unfold f_Mo_whose_b37
    rw [f_ck_of h.1.b, h.2.1.2.1, if_pos (nI_le (Nat.le_refl _) (by have := hn.1.2; omega))]
    rfl
  | succ k ih =>
    intro i F hi hF
    obtain ⟨F, rfl⟩ : ∃ f, F = f + 1 := ⟨F - 1, by omega⟩
    have hnt := hn.1.2
    show f_Mo_whose_b37 _ _ _ = _
    unfold f_Mo_whose_b37 f_Mo_whose_b62 fnd
    have e4 : (4 : Int32) + nI i = nI (4 + i) := nI_add 4 i
    have e11 : (11 : Int32) + nI i = nI (11 + i) := nI_add 11 i
    rw [f_ck_of h.1.b, h.2.1.2.1, if_neg (nI_ge (by omega) (by omega)), e4, e11, f_ck_of (vp_in_nI (by omega) (by decide)), nI_clamp (by omega), h.2.1.2.2.2 i (by omega), h7]
    have hw := hn.2.2 i (by omega)
    have w1 := wOK_63 hw
    have w2 := wOK_63 ha
    by_cases q : (e.tn i).1 = a
    · rw [if_pos ((lN_ne (by omega) (by omega)).mpr ((wOK_eq hw ha).mp q)), if_pos q]
    · rw [if_neg (fun g => q ((wOK_eq hw ha).mpr ((lN_ne (by omega) (by omega)).mp g))), if_neg q, nI_1]
      exact ih (i + 1) F (by omega) (by omega)
theorem m_whoP (h : ME T n e c τ s) (hn : NmOK e) {a b : Nat} (ha : wOK a b) (h7 : mL s 46 7 = lN b) : ∀ (k i F : Nat), i + k = e.np → k < F → f_Mo_whose_h2 F (nI i) s = (match fnd (fun i => (e.pn i).1) a k i with
    | some j => some (nI j, s)
    | none => f_Mo_whose_b35 s) := by
  intro k
  induction k with
  | zero =>
    intro i F hi hF
    obtain ⟨F, rfl⟩ : ∃ f, F = f + 1 := ⟨F - 1, by omega⟩
    obtain rfl : i = e.np := by omega
    show f_Mo_whose_b2 _ _ _ = _
    unfold f_Mo_whose_b2
    rw [f_ck_of h.1.b, h.2.1.1, if_pos (nI_le (Nat.le_refl _) (by have := hn.1.1; omega))]
    rfl
  | succ k ih =>
    intro i F hi hF
    obtain ⟨F, rfl⟩ : ∃ f, F = f + 1 := ⟨F - 1, by omega⟩
    have hnp := hn.1.1
    show f_Mo_whose_b2 _ _ _ = _
    unfold f_Mo_whose_b2 fnd
    have e7 : (7 : Int32) + nI i = nI (7 + i) := nI_add 7 i
    rw [f_ck_of h.1.b, h.2.1.1, if_neg (nI_ge (by omega) (by omega)), e7, f_ck_of (vp_in_nI (by omega) (by decide)), nI_clamp (by omega), h.2.1.2.2.1 i (by omega), h7]
    have hw := hn.2.1 i (by omega)
    have w1 := wOK_63 hw
    have w2 := wOK_63 ha
    by_cases q : (e.pn i).1 = a
    · rw [if_pos ((lN_ne (by omega) (by omega)).mpr ((wOK_eq hw ha).mp q)), if_pos q]
    · rw [if_neg (fun g => q ((wOK_eq hw ha).mpr ((lN_ne (by omega) (by omega)).mp g))), if_neg q, nI_1]
      exact ih (i + 1) F (by omega) (by omega)
theorem me_who (h : ME T n e c τ s) (ht : TG T n τ) (hn : NmOK e) (h2 : τ.k = 2) : f_Mo_whose s = some (whI (who e τ.pw), s) := by
  obtain ⟨p, ht⟩ := ht
  have ha := (ht.2.2.2.2.1 (Or.inl h2)).1
  have h7 := h.2.2.1.2.2.2.2 (Or.inl h2)
  have hnp := hn.1
  unfold f_Mo_whose
  rw [show (0 : Int32) = nI 0 from rfl, m_whoP h hn ha h7 e.np 0 zl_fl (by omega) (by show _ < 4096; omega)]
  unfold who
  cases fnd (fun i => (e.pn i).1) τ.pw e.np 0 with
  | some j => rfl
  | none =>
    show f_Mo_whose_h37 zl_fl 0 s = _
    rw [show (0 : Int32) = nI 0 from rfl, m_whoT h hn ha h7 e.nt 0 zl_fl (by omega) (by show _ < 4096; omega)]
    cases fnd (fun i => (e.tn i).1) τ.pw e.nt 0 with
    | some j => rfl
    | none => rfl
end
