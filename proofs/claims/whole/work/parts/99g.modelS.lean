/-! works: the model reads sentences -/
section
variable {s s' s1 s2 : Sg} {T : Nat → Nat} {n c : Nat} {e : Nm} {τ : Tok} {z : Ps}
def qA (a k : Nat) : Prop := (a = 46 ∧ ((4 ≤ k ∧ k ≤ 6) ∨ k = 8 ∨ k = 9 ∨ (21 ≤ k ∧ k ≤ 24))) ∨ (a = 49 ∧ 4 ≤ k) ∨ (a = 50 ∧ 16 ≤ k) ∨ ((51 ≤ a ∧ a ≤ 54) ∧ 8 ≤ k) ∨ (a = 55 ∧ 1000 ≤ k) ∨ a = 56 ∨ a = 57
def qB (a k : Nat) : Prop := (a = 46 ∧ k = 7) ∨ (a = 48 ∧ 7 ≤ k)
def MC (q : Nat → Nat) (s : Sg) : Prop := ∀ k, k < 16 → mI s 50 (16 + k) = nI (q k)
def MO (z : Ps) (s : Sg) : Prop := mI s 46 24 = nI z.ln ∧ (∀ p, p < z.e.np → mI s 49 (4 + p) = nI (z.stp p)) ∧ (∀ i, i < z.ln → mI s 51 (8 + i) = nI (z.lw i % 16) ∧ mI s 52 (8 + i) = nI (z.lw i / 16) ∧ mI s 53 (8 + i) = nI (1000 + mps z.la i) ∧ mI s 54 (8 + i) = nI (1000 + mps z.la (i + 1)) ∧ HC s 55 (1000 + mps z.la i) (z.la i).2.1)
def MS (T : Nat → Nat) (n : Nat) (z : Ps) (τ : Tok) (s : Sg) : Prop := ME T n z.e (mps z.la z.ln) τ s ∧ MC z.cst s ∧ MO z s
theorem fr_qE {d d' : Nat} (f : FR (mE d d' c) nBx s s') : FR qA qB s s' := f.mo (fun a k h => by unfold mE at h; unfold qA; omega) (fun a k h => Or.inl h)
theorem fr_qC (f : FR nAx nBx s s') : FR qA qB s s' := f.mo (fun a k h => by unfold nAx at h; unfold qA; omega) (fun a k h => Or.inl h)
theorem MC.f {A B : Nat → Nat → Prop} {q : Nat → Nat} (h : MC q s) (f : FR A B s s') (h50 : ∀ k, ¬ A 50 k) : MC q s' := fun k hk => (f.2.1 50 _ (h50 _)).trans (h k hk)
theorem MC.ee {q : Nat → Nat} {d d' : Nat} (h : MC q s) (f : FR (mE d d' c) nBx s s') : MC q s' := h.f f (fun k => by unfold mE; omega)
theorem MC.cc {q : Nat → Nat} (h : MC q s) (f : FR nAx nBx s s') : MC q s' := h.f f (fun k => by unfold nAx; omega)
theorem MO.f {A B : Nat → Nat → Prop} (h : MO z s) (f : FR A B s s') (h1 : ¬ A 46 24) (h2 : ∀ k, k < z.e.np → ¬ A 49 (4 + k)) (h3 : ∀ a k, 51 ≤ a → a ≤ 54 → k < z.ln → ¬ A a (8 + k)) (h5 : ∀ k, k < 1000 + mps z.la z.ln → ¬ A 55 k) : MO z s' := by
  obtain ⟨a1, a2, a3⟩ := h
  refine ⟨(f.2.1 _ _ h1).trans a1, fun p hp => (f.2.1 _ _ (h2 p hp)).trans (a2 p hp), fun i hi => ?_⟩
  obtain ⟨b1, b2, b3, b4, b5⟩ := a3 i hi
  refine ⟨(f.2.1 _ _ (h3 51 i (by decide) (by decide) hi)).trans b1, (f.2.1 _ _ (h3 52 i (by decide) (by decide) hi)).trans b2, (f.2.1 _ _ (h3 53 i (by decide) (by decide) hi)).trans b3, (f.2.1 _ _ (h3 54 i (by decide) (by decide) hi)).trans b4, HC_cg (fun k hk => f.2.1 55 _ (h5 _ ?_)) b5⟩
  have := mps_mo (la := z.la) (show i + 1 ≤ z.ln from hi)
  have h9 : mps z.la (i + 1) = mps z.la i + (z.la i).2.1.length := rfl
  omega
theorem MO.ee {d d' : Nat} (h : MO z s) (f : FR (mE d d' (mps z.la z.ln)) nBx s s') : MO z s' := h.f f (by unfold mE; omega) (fun k _ => by unfold mE; omega) (fun a k h1 h2 _ => by unfold mE; omega) (fun k hk => by unfold mE; omega)
theorem MO.cc (h : MO z s) (f : FR nAx nBx s s') : MO z s' := h.f f (by unfold nAx; omega) (fun k _ => by unfold nAx; omega) (fun a k h1 h2 _ => by unfold nAx; omega) (fun k hk => by unfold nAx; omega)
theorem ME.f {A B : Nat → Nat → Prop} (h : ME T n e c τ s) (f : FR A B s s') (hA : ∀ a k, A a k → 49 ≤ a ∨ (a = 46 ∧ k = 24)) (hB : ∀ a k, ¬ B a k) : ME T n e c τ s' := by
  obtain ⟨h1, h3, ⟨t1, t2, t3, t4, t5⟩, h5⟩ := h
  have z : ∀ a k, ¬ (49 ≤ a ∨ (a = 46 ∧ k = 24)) → mI s' a k = mI s a k := fun a k g => f.2.1 a k (fun q => g (hA a k q))
  have y : ∀ a k, mL s' a k = mL s a k := fun a k => f.2.2 a k (hB a k)
  exact ⟨h1.f f (fun q => by have := hA _ _ q; omega) (fun k q => by have := hA _ _ q; omega), ⟨(z 46 22 (by omega)).trans h3.1, (z 46 23 (by omega)).trans h3.2.1, fun i hi => (y 48 _).trans (h3.2.2.1 i hi), fun i hi => (y 48 _).trans (h3.2.2.2 i hi)⟩, ⟨(z 46 4 (by omega)).trans t1, (z 46 5 (by omega)).trans t2, (z 46 6 (by omega)).trans t3, fun q => (z 46 8 (by omega)).trans (t4 q), fun q => (y 46 7).trans (t5 q)⟩, (z 46 21 (by omega)).trans h5⟩
def mRs (T : Nat → Nat) (n : Nat) (s : Sg) (R : RsP) (f : Option (Int32 × Sg)) : Prop := match R with
  | .error q => ∃ s', f = some (0, s') ∧ FR qA qB s s' ∧ mI s' 46 9 = nI q.1 ∧ MC q.2 s'
  | .ok r => ∃ s', f = some (1, s') ∧ FR qA qB s s' ∧ MS T n r.1 r.2 s'
theorem mRs_eq {R : RsP} {f g : Option (Int32 × Sg)} (h : f = g) (hg : mRs T n s R g) : mRs T n s R f := by rw [h]; exact hg
/-- a wrong place -/
theorem mRs_wr (h : ME T n e c τ s1) (f : FR qA qB s s1) {q : Nat → Nat} (hc : MC q s1) (j : Nat) : mRs T n s (.error (j + 16 * τ.st, q)) (f_bd (f_Mo_fails (nI j) s1) fun r18 s19 => f_ck (narrow FieldType.boolean (.int r18) = .int r18) <| some (r18, s19)) := by
  obtain ⟨s2, e2, f2, z2⟩ := me_failN h 0 0 j
  exact ⟨s2, e2, f.tr (fr_qE f2), z2, hc.ee f2⟩
theorem m_ends (h : ME T n e c τ s) (ht : TG T n τ) : (τ.k = 59 ∧ ∃ s', f_Mo_ends s = some (1, s') ∧ FR nAx nBx s s' ∧ ME T n e c (tkn T n τ.en) s') ∨ (¬ τ.k = 59 ∧ ∃ s', f_Mo_ends s = some (0, s') ∧ FR (mE 0 0 c) nBx s s' ∧ mI s' 46 9 = nI (1 + 16 * τ.st)) := by
  have S59 : f_Mo_isSign 59 s = some (if τ.k = 59 then 1 else 0, s) := me_sign h ht (j := 59) (by decide)
  unfold f_Mo_ends
  rw [f_ck_of h.1.b, f_bd_of S59]
  by_cases c1 : τ.k = 59
  · left
    obtain ⟨s1, e1, f1, h1⟩ := me_next h ht
    refine ⟨c1, s1, ?_, f1, h1⟩
    rw [if_pos c1, if_neg (show ¬ (1 : Int32) = 0 by decide), f_ck_of h.1.b, f_bd_of e1]
  · right
    obtain ⟨s1, e1, f1, h1⟩ := me_failN h 0 0 1
    refine ⟨c1, s1, ?_, f1, h1⟩
    rw [if_neg c1, if_pos rfl, f_ck_of h.1.b]
    exact e1
/-- .. at the end of a call -/
theorem m_ends2 {f : Option (Int32 × Sg)} {x : Int32} (hf : f = some (x, s')) (hx : x = 0 ∨ x = 1) : (f_bd f fun r70 s71 => f_ck (narrow FieldType.boolean (.int r70) = .int r70) <| some (r70, s71)) = some (x, s') := by
  rw [f_bd_of hf]
  rcases hx with rfl | rfl
  · rw [f_ck_of (by decide)]
  · rw [f_ck_of (by decide)]
def mlA (a k : Nat) : Prop := nAx a k ∨ (a = 50 ∧ 16 ≤ k)
theorem fr_qL (f : FR mlA nBx s s') : FR qA qB s s' := f.mo (fun a k h => by unfold mlA nAx at h; unfold qA; omega) (fun a k h => Or.inl h)
theorem fr_ml (f : FR nAx nBx s s') : FR mlA nBx s s' := f.mo (fun a k h => Or.inl h) (fun _ _ h => h)
theorem MO.l (h : MO z s) (f : FR mlA nBx s s') : MO z s' := h.f f (by unfold mlA nAx; omega) (fun k _ => by unfold mlA nAx; omega) (fun a k h1 h2 _ => by unfold mlA nAx; omega) (fun k hk => by unfold mlA nAx; omega)
theorem m_cost (hnp : e.np < 4) : ∀ (f j : Nat) (q : Nat → Nat) (τ : Tok) (s : Sg) (F : Nat), f + j = 3 → f < F → ME T n e c τ s → TG T n τ → MC q s → match pCost (tkn T n) e.np f j q τ with
    | .error y => ∃ s', f_Mo_readsPerson_h86 F (nI j) s = some (0, s') ∧ FR qA qB s s' ∧ mI s' 46 9 = nI y.1 ∧ MC y.2 s'
    | .ok r => (r.1 = 0 ∧ ∃ s', f_Mo_readsPerson_h86 F (nI j) s = some (0, s') ∧ FR qA qB s s' ∧ mI s' 46 9 = nI (1 + 16 * r.2.2.st) ∧ MC r.2.1 s') ∨ (¬ r.1 = 0 ∧ ∃ s', f_Mo_readsPerson_h86 F (nI j) s = f_Mo_readsPerson_b163 (nI r.1) s' ∧ FR mlA nBx s s' ∧ ME T n e c r.2.2 s' ∧ MC r.2.1 s') := by
  intro f
  induction f with
  | zero =>
    intro j q τ s F hj hF h ht hc
    obtain ⟨F, rfl⟩ : ∃ g, F = g + 1 := ⟨F - 1, by omega⟩
    refine Or.inr ⟨?_, s, ?_, FR.rf _ _ _, h, hc⟩
    · show ¬ j = 0
      omega
    · show f_Mo_readsPerson_b86 (f_Mo_readsPerson_h86 F) (nI j) s = _
      unfold f_Mo_readsPerson_b86
      rw [if_pos (show (3 : Int32) ≤ nI j from nI_le (a := 3) (by omega) (by omega))]
  | succ f ih =>
    intro j q τ s F hj hF h ht hc
    obtain ⟨F, rfl⟩ : ∃ g, F = g + 1 := ⟨F - 1, by omega⟩
    have hb := h.1.b
    have h86 : f_Mo_readsPerson_h86 (F + 1) (nI j) s = f_Mo_readsPerson_b86 (f_Mo_readsPerson_h86 F) (nI j) s := rfl
    unfold f_Mo_readsPerson_b86 at h86
    rw [if_neg (show ¬ (3 : Int32) ≤ nI j from nI_ge (b := 3) (by omega) (by decide))] at h86
    have K6 : mI s 46 6 = 2 ↔ τ.k = 3 := (me_6 h 2 (by decide)).trans mkd_2
    unfold pCost
    by_cases c3 : τ.k = 3
    · rw [if_pos c3]
      have h103 : f_Mo_readsPerson_h86 (F + 1) (nI j) s = f_Mo_readsPerson_b103 (f_Mo_readsPerson_h86 F) (nI j) s := by
        rw [h86]
        by_cases j0 : nI j = 0
        · rw [if_pos j0]
        · rw [if_neg j0, f_ck_of hb, if_pos (K6.mpr c3)]
      unfold f_Mo_readsPerson_b103 at h103
      rw [f_ck_of hb, if_pos (K6.mpr c3), h.2.2.1.2.2.2.1 c3] at h103
      have hv : τ.v ≤ 9999 := by obtain ⟨p, ht⟩ := ht; exact ht.2.2.2.2.2.1 c3
      by_cases cv : τ.v ≤ 999
      · rw [if_pos cv]
        have ei : 16 + 4 * nI e.np + (nI j + 1) = nI (16 + (4 * e.np + (j + 1))) := by
          rw [show (4 : Int32) = nI 4 from rfl, show (16 : Int32) = nI 16 from rfl, nI_mul, nI_1, nI_add, nI_add, Nat.add_assoc]
        rw [if_pos (show nI τ.v ≤ 999 from nI_le (b := 999) cv (by decide)), h.2.1.1, ei, f_ck_of (vp_in_nI (by omega) (by decide)), nI_clamp (by omega)] at h103
        have f1 : FR mlA nBx s (uI s 50 (16 + (4 * e.np + (j + 1))) (nI τ.v)) := fr_uI s _ (Or.inr ⟨rfl, by omega⟩)
        have f1' : FR (fun a _ => a = 50) NoL s (uI s 50 (16 + (4 * e.np + (j + 1))) (nI τ.v)) := fr_uI s _ rfl
        have h1 := h.f f1' (fun a k g => by have g' : a = 50 := g; omega) (fun _ _ g => g)
        have c1 : MC (pud q (4 * e.np + (j + 1)) τ.v) (uI s 50 (16 + (4 * e.np + (j + 1))) (nI τ.v)) := fun k hk => by
          by_cases ek : k = 4 * e.np + (j + 1)
          · rw [ek, mI_at, pud_at]
          · rw [mI_ne _ _ (by omega), pud_ne _ _ ek]; exact hc k hk
        obtain ⟨s2, e2, f2, h2⟩ := me_next h1 ht
        have h86' : f_Mo_readsPerson_h86 (F + 1) (nI j) s = f_Mo_readsPerson_h86 F (nI (j + 1)) s2 := by
          refine h103.trans ((f_bd_of e2).trans ?_)
          rw [nI_1]
        have hi := ih (j + 1) _ _ s2 F (by omega) (by omega) h2 ht.tk (c1.cc f2)
        cases hr : pCost (tkn T n) e.np f (j + 1) (pud q (4 * e.np + (j + 1)) τ.v) (tkn T n τ.en) with
        | error y =>
          rw [hr] at hi
          obtain ⟨s3, e3, f3, z3⟩ := hi
          exact ⟨s3, h86'.trans e3, (fr_qL (f1.tr (fr_ml f2))).tr f3, z3⟩
        | ok r =>
          rw [hr] at hi
          rcases hi with ⟨r0, s3, e3, f3, z3⟩ | ⟨r0, s3, e3, f3, z3⟩
          · exact Or.inl ⟨r0, s3, h86'.trans e3, (fr_qL (f1.tr (fr_ml f2))).tr f3, z3⟩
          · exact Or.inr ⟨r0, s3, h86'.trans e3, (f1.tr (fr_ml f2)).tr f3, z3⟩
      · rw [if_neg cv]
        rw [if_neg (show ¬ nI τ.v ≤ 999 from nI_ge (a := 999) (by omega) (by omega))] at h103
        obtain ⟨s2, e2, f2, z2⟩ := me_failN h 0 0 4
        refine ⟨s2, ?_, fr_qE f2, z2, hc.ee f2⟩
        rw [h103]
        unfold f_Mo_readsPerson_b127
        rw [f_ck_of hb]
        exact e2
    · rw [if_neg c3]
      by_cases j0 : j = 0
      · left
        obtain ⟨s2, e2, f2, z2⟩ := me_failN h 0 0 1
        refine ⟨j0, s2, ?_, fr_qE f2, z2, hc.ee f2⟩
        rw [h86, if_pos (show nI j = 0 by rw [j0]; rfl)]
        unfold f_Mo_readsPerson_b103 f_Mo_readsPerson_b111
        rw [f_ck_of hb, if_neg (fun g => c3 (K6.mp g)), f_ck_of hb]
        exact e2
      · right
        refine ⟨j0, s, ?_, FR.rf _ _ _, h, hc⟩
        rw [h86, if_neg (nI_ne0 (by omega) (by omega)), f_ck_of hb, if_neg (fun g => c3 (K6.mp g))]
theorem m_pers (h : MS T n z τ s) (hg : PG T n z τ) : mRs T n s (pPers (tkn T n) z τ) (f_Mo_readsPerson s) := by
  obtain ⟨h, hc, ho⟩ := h
  have hn := hg.1
  have hn1 := hn.1
  have ht := hg.2.2.2.2.2.2
  unfold f_Mo_readsPerson pPers
  rw [f_ck_of h.1.b, h.2.1.1]
  by_cases c4 : z.e.np < 4
  · rw [if_neg (show ¬ nI z.e.np = 4 from nI_neq (b := 4) (by omega) (by decide) (by omega)), if_pos c4]
    obtain ⟨s1, e1, f1, h1⟩ := me_next h ht
    have t1 := ht.tk
    have hc1 := hc.cc f1
    have ho1 := ho.cc f1
    rw [f_bd_of e1, f_ck_of h1.1.b, f_bd_of (me_name h1 t1)]
    unfold pPers1
    by_cases c2 : (tkn T n τ.en).k = 2
    · rw [if_pos c2, if_neg (show ¬ (1 : Int32) = 0 by decide), f_ck_of h1.1.b, f_bd_of (me_who h1 t1 hn c2)]
      cases hw : who z.e (tkn T n τ.en).pw with
      | some i =>
        have hib := who_b hn hw
        have en : pNew z.e (tkn T n τ.en) = 3 := by
          unfold pNew
          rw [if_pos c2, hw]
        rw [en, if_neg (show ¬ (3 : Nat) = 0 by decide), if_neg (show ¬ whI (some i) < 0 from nI_pos (by omega)), f_ck_of h1.1.b]
        exact mRs_wr h1 (fr_qC f1) hc1 3
      | none =>
        have en : pNew z.e (tkn T n τ.en) = 0 := by
          unfold pNew
          rw [if_pos c2, hw]
        have w7 : mL s1 46 7 = lN (tkn T n τ.en).hw := h1.2.2.1.2.2.2.2 (Or.inl c2)
        have e7 : (7 : Int32) + nI z.e.np = nI (7 + z.e.np) := nI_add 7 _
        rw [en, if_pos rfl, if_pos (show whI none < 0 by decide), f_ck_of h1.1.b, h1.2.1.1, e7, f_ck_of (vp_in_nI (by omega) (by decide)), nI_clamp (by omega), w7]
        have f2 : FR qA qB s1 (uL s1 48 (7 + z.e.np) (lN (tkn T n τ.en).hw)) := fr_uL s1 _ (Or.inr ⟨rfl, by omega⟩)
        have h2 : ME T n z.e (mps z.la z.ln) (tkn T n τ.en) (uL s1 48 (7 + z.e.np) (lN (tkn T n τ.en).hw)) := by
          obtain ⟨q1, q3, ⟨p1, p2, p3, p4, p5⟩, q5⟩ := h1
          refine ⟨q1, ⟨q3.1, q3.2.1, fun i hi => ?_, fun i hi => ?_⟩, ⟨p1, p2, p3, p4, fun q => ?_⟩, q5⟩
          · rw [mL_ne _ _ (by omega)]; exact q3.2.2.1 i hi
          · rw [mL_ne _ _ (by omega)]; exact q3.2.2.2 i hi
          · rw [mL_ne _ _ (by omega)]; exact p5 q
        have r48 : mL (uL s1 48 (7 + z.e.np) (lN (tkn T n τ.en).hw)) 48 (7 + z.e.np) = lN (tkn T n τ.en).hw := mL_at _ _ _ _
        have hc2 : MC z.cst (uL s1 48 (7 + z.e.np) (lN (tkn T n τ.en).hw)) := hc1
        have ho2 : MO z (uL s1 48 (7 + z.e.np) (lN (tkn T n τ.en).hw)) := ho1.f (fr_uL (A := NoL) (B := qB) s1 _ (Or.inr ⟨rfl, by omega⟩)) (fun q => q) (fun _ _ q => q) (fun _ _ _ _ _ q => q) (fun _ _ q => q)
        generalize uL s1 48 (7 + z.e.np) (lN (tkn T n τ.en).hw) = s2 at *
        obtain ⟨s3, e3, f3, h3⟩ := me_next h2 t1
        have t2 := t1.tk
        have hc3 := hc2.cc f3
        have ho3 := ho2.cc f3
        have f03 : FR qA qB s s3 := ((fr_qC f1).tr f2).tr (fr_qC f3)
        refine mRs_eq (f_bd_of e3) ?_
        have W5 : f_Mo_isWord 1903978 s3 = some (if (tkn T n (tkn T n τ.en).en).k = 5 then 1 else 0, s3) := me_word h3 t2 wk_5 (kw := 5) (fun a => kwd_5) (by decide)
        rw [f_ck_of h3.1.b, f_bd_of W5]
        unfold pPers2
        by_cases c5 : (tkn T n (tkn T n τ.en).en).k = 5
        · rw [if_pos c5, if_pos c5, if_neg (show ¬ (1 : Int32) = 0 by decide), f_ck_of h3.1.b]
          obtain ⟨s4, e4, f4, h4⟩ := me_next h3 t2
          have hc4 := hc3.cc f4
          have ho4 := ho3.cc f4
          have hgG := pCost_G (np := z.e.np) 3 0 z.cst _ t2.tk rfl hg.2.1
          have hk := m_cost (T := T) (n := n) (e := z.e) (c := mps z.la z.ln) c4 3 0 z.cst _ s4 zl_fl rfl (by rw [zl_4096]; omega) h4 t2.tk hc4
          rw [f_bd_of e4]
          cases hr : pCost (tkn T n) z.e.np 3 0 z.cst (tkn T n (tkn T n (tkn T n τ.en).en).en) with
          | error y =>
            rw [hr] at hk
            obtain ⟨s5, e5, f5, z5, c5'⟩ := hk
            exact ⟨s5, e5, (f03.tr (fr_qC f4)).tr f5, z5, c5'⟩
          | ok r =>
            rw [hr] at hk hgG
            obtain ⟨g1, g2, g3, g4⟩ := hgG
            show mRs T n s (pPersE (tkn T n) z ((tkn T n τ.en).pw, (tkn T n τ.en).hw) r) _
            unfold pPersE
            rcases hk with ⟨r0, s5, e5, f5, z5, c5'⟩ | ⟨r0, s5, e5, f5, h5, hc5⟩
            · rw [if_pos r0]
              exact ⟨s5, e5, (f03.tr (fr_qC f4)).tr f5, z5, c5'⟩
            · rw [if_neg r0]
              have ho5 := ho4.l f5
              have f05 : FR qA qB s s5 := (f03.tr (fr_qC f4)).tr (fr_qL f5)
              refine mRs_eq (show f_Mo_readsPerson_h86 zl_fl 0 s4 = _ from e5) ?_
              have f6 : FR qA qB s5 (uI (uI s5 49 (4 + z.e.np) (nI r.1)) 46 22 (nI (z.e.np + 1))) := (fr_uI s5 _ (Or.inr (Or.inl ⟨rfl, by omega⟩))).tr (fr_uI _ _ (Or.inl ⟨rfl, by omega⟩))
              have z5 : ∀ a k, ¬ ((a = 49 ∧ k = 4 + z.e.np) ∨ (a = 46 ∧ k = 22)) → mI (uI (uI s5 49 (4 + z.e.np) (nI r.1)) 46 22 (nI (z.e.np + 1))) a k = mI s5 a k := fun a k g => by rw [mI_ne _ _ (by omega), mI_ne _ _ (by omega)]
              have h6 : ME T n (addP z.e ((tkn T n τ.en).pw, (tkn T n τ.en).hw)) (mps z.la z.ln) r.2.2 (uI (uI s5 49 (4 + z.e.np) (nI r.1)) 46 22 (nI (z.e.np + 1))) := by
                obtain ⟨q1, q3, ⟨p1, p2, p3, p4, p5⟩, q5⟩ := h5
                refine ⟨⟨q1.1, q1.2.1, (z5 46 3 (by omega)).trans q1.2.2.1, fun k hk => ⟨(z5 47 k (by omega)).trans (q1.2.2.2 k hk).1, (q1.2.2.2 k hk).2⟩⟩, ⟨mI_at _ _ _ _, (z5 46 23 (by omega)).trans q3.2.1, fun i hi => ?_, fun i hi => q3.2.2.2 i hi⟩, ⟨(z5 46 4 (by omega)).trans p1, (z5 46 5 (by omega)).trans p2, (z5 46 6 (by omega)).trans p3, fun q => (z5 46 8 (by omega)).trans (p4 q), p5⟩, (z5 46 21 (by omega)).trans q5⟩
                show mL s5 48 (7 + i) = lN (pud z.e.pn z.e.np ((tkn T n τ.en).pw, (tkn T n τ.en).hw) i).2
                by_cases ei : i = z.e.np
                · rw [ei, pud_at]
                  exact ((f5.2.2 48 _ (by unfold nBx; omega)).trans ((f4.2.2 48 _ (by unfold nBx; omega)).trans (f3.2.2 48 _ (by unfold nBx; omega)))).trans r48
                · rw [pud_ne _ _ ei]
                  have hi' : i < z.e.np + 1 := hi
                  exact q3.2.2.1 i (by omega)
              have hc6 : MC r.2.1 (uI (uI s5 49 (4 + z.e.np) (nI r.1)) 46 22 (nI (z.e.np + 1))) := fun k hk => (z5 50 _ (by omega)).trans (hc5 k hk)
              have ho6 : MO (addP z.e ((tkn T n τ.en).pw, (tkn T n τ.en).hw), r.2.1, pud z.stp z.e.np r.1, z.ln, z.la, z.lw) (uI (uI s5 49 (4 + z.e.np) (nI r.1)) 46 22 (nI (z.e.np + 1))) := by
                obtain ⟨a1, a2, a3⟩ := ho5
                refine ⟨(z5 46 24 (by omega)).trans a1, fun p hp => ?_, fun i hi => ?_⟩
                · show mI _ 49 (4 + p) = nI (pud z.stp z.e.np r.1 p)
                  rw [mI_ne _ _ (by omega)]
                  by_cases ep : p = z.e.np
                  · rw [ep, mI_at, pud_at]
                  · rw [mI_ne _ _ (by omega), pud_ne _ _ ep]
                    have hp' : p < z.e.np + 1 := hp
                    exact a2 p (by omega)
                · obtain ⟨b1, b2, b3, b4, b5⟩ := a3 i hi
                  exact ⟨(z5 51 _ (by omega)).trans b1, (z5 52 _ (by omega)).trans b2, (z5 53 _ (by omega)).trans b3, (z5 54 _ (by omega)).trans b4, HC_cg (fun k hk => z5 55 _ (by omega)) b5⟩
              have e44 : (4 : Int32) + nI z.e.np = nI (4 + z.e.np) := nI_add 4 _
              have r22 : mI (uI s5 49 (4 + z.e.np) (nI r.1)) 46 22 = nI z.e.np := by rw [mI_ne _ _ (by omega)]; exact h5.2.1.1
              unfold f_Mo_readsPerson_b163
              rw [f_ck_of h5.1.b, h5.2.1.1, e44, f_ck_of (vp_in_nI (by omega) (by decide)), nI_clamp (by omega)]
              show mRs T n s _ (f_bd (f_Mo_ends (uI (uI s5 49 (4 + z.e.np) (nI r.1)) 46 22 (mI (uI s5 49 (4 + z.e.np) (nI r.1)) 46 22 + 1))) _)
              rw [r22, nI_1]
              rcases m_ends h6 g1 with ⟨c59, s7, e7, f7, h7⟩ | ⟨c59, s7, e7, f7, z7⟩
              · rw [if_pos c59]
                exact ⟨s7, m_ends2 e7 (Or.inr rfl), (f05.tr f6).tr (fr_qC f7), h7, hc6.cc f7, ho6.cc f7⟩
              · rw [if_neg c59]
                exact ⟨s7, m_ends2 e7 (Or.inl rfl), (f05.tr f6).tr (fr_qE f7), z7, hc6.ee f7⟩
        · rw [if_neg c5, if_neg c5, if_pos rfl, f_ck_of h3.1.b]
          exact mRs_wr h3 f03 hc3 1
    · have en : pNew z.e (tkn T n τ.en) = 1 := by
        unfold pNew
        rw [if_neg c2]
      rw [en, if_neg (show ¬ (1 : Nat) = 0 by decide), if_neg c2, if_pos rfl, f_ck_of h1.1.b]
      exact mRs_wr h1 (fr_qC f1) hc1 1
  · have e4 : z.e.np = 4 := by omega
    rw [if_pos (show nI z.e.np = 4 by rw [e4]; rfl), if_neg c4]
    exact mRs_wr h (FR.rf _ _ _) hc 5
theorem m_thin (h : MS T n z τ s) (hg : PG T n z τ) : mRs T n s (pThin (tkn T n) z τ) (f_Mo_readsThing s) := by
  obtain ⟨h, hc, ho⟩ := h
  have hn := hg.1
  have hn1 := hn.1
  have ht := hg.2.2.2.2.2.2
  unfold f_Mo_readsThing pThin
  rw [f_ck_of h.1.b, h.2.1.2.1]
  by_cases c4 : z.e.nt < 3
  · rw [if_neg (show ¬ nI z.e.nt = 3 from nI_neq (b := 3) (by omega) (by decide) (by omega)), if_pos c4]
    obtain ⟨s1, e1, f1, h1⟩ := me_next h ht
    have t1 := ht.tk
    have hc1 := hc.cc f1
    have ho1 := ho.cc f1
    rw [f_bd_of e1, f_ck_of h1.1.b, f_bd_of (me_name h1 t1)]
    unfold pThin1
    by_cases c2 : (tkn T n τ.en).k = 2
    · rw [if_pos c2, if_neg (show ¬ (1 : Int32) = 0 by decide), f_ck_of h1.1.b, f_bd_of (me_who h1 t1 hn c2)]
      cases hw : who z.e (tkn T n τ.en).pw with
      | some i =>
        have hib := who_b hn hw
        have en : pNew z.e (tkn T n τ.en) = 3 := by
          unfold pNew
          rw [if_pos c2, hw]
        rw [en, if_neg (show ¬ (3 : Nat) = 0 by decide), if_neg (show ¬ whI (some i) < 0 from nI_pos (by omega)), f_ck_of h1.1.b]
        exact mRs_wr h1 (fr_qC f1) hc1 3
      | none =>
        have en : pNew z.e (tkn T n τ.en) = 0 := by
          unfold pNew
          rw [if_pos c2, hw]
        have w7 : mL s1 46 7 = lN (tkn T n τ.en).hw := h1.2.2.1.2.2.2.2 (Or.inl c2)
        have e7 : (11 : Int32) + nI z.e.nt = nI (11 + z.e.nt) := nI_add 11 _
        have r23 : mI (uL s1 48 (11 + z.e.nt) (lN (tkn T n τ.en).hw)) 46 23 = nI z.e.nt := h1.2.1.2.1
        rw [en, if_pos rfl, if_pos (show whI none < 0 by decide), f_ck_of h1.1.b, h1.2.1.2.1, e7, f_ck_of (vp_in_nI (by omega) (by decide)), nI_clamp (by omega), w7]
        show mRs T n s _ (f_bd (f_Mo_nextToken (uI (uL s1 48 (11 + z.e.nt) (lN (tkn T n τ.en).hw)) 46 23 (mI (uL s1 48 (11 + z.e.nt) (lN (tkn T n τ.en).hw)) 46 23 + 1))) _)
        rw [r23, nI_1]
        have f2 : FR qA qB s1 (uI (uL s1 48 (11 + z.e.nt) (lN (tkn T n τ.en).hw)) 46 23 (nI (z.e.nt + 1))) := (fr_uL s1 _ (Or.inr ⟨rfl, by omega⟩)).tr (fr_uI _ _ (Or.inl ⟨rfl, by omega⟩))
        have f2' : FR (fun a k => a = 46 ∧ k = 23) qB s1 (uI (uL s1 48 (11 + z.e.nt) (lN (tkn T n τ.en).hw)) 46 23 (nI (z.e.nt + 1))) := (fr_uL s1 _ (Or.inr ⟨rfl, by omega⟩)).tr (fr_uI _ _ ⟨rfl, rfl⟩)
        have z2 : ∀ a k, ¬ (a = 46 ∧ k = 23) → mI (uI (uL s1 48 (11 + z.e.nt) (lN (tkn T n τ.en).hw)) 46 23 (nI (z.e.nt + 1))) a k = mI s1 a k := fun a k g => f2'.2.1 a k g
        have y2 : ∀ a k, ¬ (a = 48 ∧ k = 11 + z.e.nt) → mL (uI (uL s1 48 (11 + z.e.nt) (lN (tkn T n τ.en).hw)) 46 23 (nI (z.e.nt + 1))) a k = mL s1 a k := fun a k g => mL_ne _ _ g
        have h2 : ME T n (addT z.e ((tkn T n τ.en).pw, (tkn T n τ.en).hw)) (mps z.la z.ln) (tkn T n τ.en) (uI (uL s1 48 (11 + z.e.nt) (lN (tkn T n τ.en).hw)) 46 23 (nI (z.e.nt + 1))) := by
          obtain ⟨q1, q3, ⟨p1, p2, p3, p4, p5⟩, q5⟩ := h1
          refine ⟨⟨q1.1, q1.2.1, (z2 46 3 (by omega)).trans q1.2.2.1, fun k hk => ⟨(z2 47 k (by omega)).trans (q1.2.2.2 k hk).1, (q1.2.2.2 k hk).2⟩⟩, ⟨(z2 46 22 (by omega)).trans q3.1, mI_at _ _ _ _, fun i hi => (y2 48 _ (by have hi' : i < z.e.np := hi; omega)).trans (q3.2.2.1 i hi), fun i hi => ?_⟩, ⟨(z2 46 4 (by omega)).trans p1, (z2 46 5 (by omega)).trans p2, (z2 46 6 (by omega)).trans p3, fun q => (z2 46 8 (by omega)).trans (p4 q), fun q => (y2 46 7 (by omega)).trans (p5 q)⟩, (z2 46 21 (by omega)).trans q5⟩
          show mL _ 48 (11 + i) = lN (pud z.e.tn z.e.nt ((tkn T n τ.en).pw, (tkn T n τ.en).hw) i).2
          by_cases ei : i = z.e.nt
          · rw [ei, pud_at]
            exact mL_at _ _ _ _
          · rw [pud_ne _ _ ei]
            have hi' : i < z.e.nt + 1 := hi
            exact (y2 48 _ (by omega)).trans (q3.2.2.2 i (by omega))
        have hc2 : MC z.cst (uI (uL s1 48 (11 + z.e.nt) (lN (tkn T n τ.en).hw)) 46 23 (nI (z.e.nt + 1))) := fun k hk => (z2 50 _ (by omega)).trans (hc1 k hk)
        have ho2 : MO (addT z.e ((tkn T n τ.en).pw, (tkn T n τ.en).hw), z.cst, z.stp, z.ln, z.la, z.lw) (uI (uL s1 48 (11 + z.e.nt) (lN (tkn T n τ.en).hw)) 46 23 (nI (z.e.nt + 1))) := ho1.f f2' (fun q => by have := q.2; omega) (fun _ _ q => by have := q.1; omega) (fun _ _ _ _ _ q => by have := q.1; omega) (fun _ _ q => by have := q.1; omega)
        obtain ⟨s3, e3, f3, h3⟩ := me_next h2 t1
        have t2 := t1.tk
        have hc3 := hc2.cc f3
        have ho3 := ho2.cc f3
        have f03 : FR qA qB s s3 := ((fr_qC f1).tr f2).tr (fr_qC f3)
        refine mRs_eq (f_bd_of e3) ?_
        rw [f_ck_of h3.1.b]
        unfold pThin2
        rcases m_ends h3 t2 with ⟨c59, s7, e7, f7, h7⟩ | ⟨c59, s7, e7, f7, z7⟩
        · rw [if_pos c59]
          exact ⟨s7, m_ends2 e7 (Or.inr rfl), f03.tr (fr_qC f7), h7, hc3.cc f7, ho3.cc f7⟩
        · rw [if_neg c59]
          exact ⟨s7, m_ends2 e7 (Or.inl rfl), f03.tr (fr_qE f7), z7, hc3.ee f7⟩
    · have en : pNew z.e (tkn T n τ.en) = 1 := by
        unfold pNew
        rw [if_neg c2]
      rw [en, if_neg (show ¬ (1 : Nat) = 0 by decide), if_neg c2, if_pos rfl, f_ck_of h1.1.b]
      exact mRs_wr h1 (fr_qC f1) hc1 1
  · have e4 : z.e.nt = 3 := by omega
    rw [if_pos (show nI z.e.nt = 3 by rw [e4]; rfl), if_neg c4]
    exact mRs_wr h (FR.rf _ _ _) hc 5
end
