/-! works: the class reads sentences -/
section
variable {s s' s1 s2 : Sg} {T : Nat → Nat} {n c : Nat} {e : Nm} {τ : Tok} {z : Ps}
def rA (a k : Nat) : Prop := ((a = 31 ∧ k ≤ 2) ∨ (32 ≤ a ∧ a ≤ 36 ∧ ¬ (a = 35 ∧ k = 0))) ∨ (a = 42 ∧ k ≠ 2)
def rB (a k : Nat) : Prop := (a = 42 ∧ k = 7) ∨ a = 44
def lA (a k : Nat) : Prop := (a = 42 ∧ ((3 ≤ k ∧ k ≤ 6) ∨ k = 8)) ∨ a = 33
def CC (c : Nat → Nat) (s : Sg) : Prop := ∀ k, k < 16 → mI s 33 k = (if k % 4 = 0 then 0 else nI (c k))
def CO (z : Ps) (s : Sg) : Prop := mI s 31 2 = nI z.ln ∧ (∀ p, p < z.e.np → mI s 32 p = nI (z.stp p)) ∧ (∀ i, i < z.ln → mI s 34 i = nI (z.lw i)) ∧ (∀ i, i ≤ z.ln → mI s 35 i = nI (cps z.la i)) ∧ (∀ i, i < z.ln → HC s 36 (cps z.la i) (z.la i).1)
def CS (T : Nat → Nat) (n : Nat) (z : Ps) (τ : Tok) (s : Sg) : Prop := CE T n z.e (cps z.la z.ln) τ s ∧ CC z.cst s ∧ CO z s
theorem fr_rE (f : FR (cE c) cB s s') : FR rA rB s s' := f.mo (fun a k h => by unfold cE at h; unfold rA; omega) (fun a k h => Or.inl h)
theorem fr_rC (f : FR cA cB s s') : FR rA rB s s' := f.mo (fun a k h => by unfold cA at h; unfold rA; omega) (fun a k h => Or.inl h)
theorem fr_rL (f : FR lA cB s s') : FR rA rB s s' := f.mo (fun a k h => by unfold lA at h; unfold rA; omega) (fun a k h => Or.inl h)
theorem fr_lC (f : FR cA cB s s') : FR lA cB s s' := f.mo (fun a k h => by unfold cA at h; unfold lA; omega) (fun _ _ h => h)
theorem CC.f {A B : Nat → Nat → Prop} {q : Nat → Nat} (h : CC q s) (f : FR A B s s') (h33 : ∀ k, ¬ A 33 k) : CC q s' := fun k hk => (f.2.1 33 k (h33 k)).trans (h k hk)
theorem CC.ee {q : Nat → Nat} (h : CC q s) (f : FR (cE c) cB s s') : CC q s' := h.f f (fun k => by unfold cE; omega)
theorem CC.cc {q : Nat → Nat} (h : CC q s) (f : FR cA cB s s') : CC q s' := h.f f (fun k => by unfold cA; omega)
theorem CO.f {A B : Nat → Nat → Prop} (h : CO z s) (f : FR A B s s') (h1 : ¬ A 31 2) (h2 : ∀ k, ¬ A 32 k) (h4 : ∀ k, ¬ A 34 k) (h5 : ∀ k, ¬ A 35 k) (h6 : ∀ k, k < cps z.la z.ln → ¬ A 36 k) : CO z s' := by
  obtain ⟨a1, a2, a3, a4, a5⟩ := h
  refine ⟨(f.2.1 _ _ h1).trans a1, fun p hp => (f.2.1 _ _ (h2 p)).trans (a2 p hp), fun i hi => (f.2.1 _ _ (h4 i)).trans (a3 i hi), fun i hi => (f.2.1 _ _ (h5 i)).trans (a4 i hi), fun i hi => HC_cg (fun k hk => f.2.1 36 _ (h6 _ ?_)) (a5 i hi)⟩
  have := cps_mo (la := z.la) (show i + 1 ≤ z.ln from hi)
  have h9 : cps z.la (i + 1) = cps z.la i + (z.la i).1.length := rfl
  omega
theorem CO.ee (h : CO z s) (f : FR (cE (cps z.la z.ln)) cB s s') : CO z s' := h.f f (by unfold cE; omega) (fun k => by unfold cE; omega) (fun k => by unfold cE; omega) (fun k => by unfold cE; omega) (fun k hk => by unfold cE; omega)
theorem CO.cc (h : CO z s) (f : FR cA cB s s') : CO z s' := h.f f (by unfold cA; omega) (fun k => by unfold cA; omega) (fun k => by unfold cA; omega) (fun k => by unfold cA; omega) (fun k hk => by unfold cA; omega)
theorem CO.l (h : CO z s) (f : FR lA cB s s') : CO z s' := h.f f (by unfold lA; omega) (fun k => by unfold lA; omega) (fun k => by unfold lA; omega) (fun k => by unfold lA; omega) (fun k hk => by unfold lA; omega)
theorem CE.f {A B : Nat → Nat → Prop} (h : CE T n e c τ s) (f : FR A B s s') (hA : ∀ a k, A a k → (32 ≤ a ∧ a ≤ 35) ∨ (a = 31 ∧ k = 2)) (hB : ∀ a k, ¬ B a k) : CE T n e c τ s' := by
  obtain ⟨h1, h2, h3, ⟨t1, t2, t3, t4, t5⟩, h5⟩ := h
  have z : ∀ a k, ¬ ((32 ≤ a ∧ a ≤ 35) ∨ (a = 31 ∧ k = 2)) → mI s' a k = mI s a k := fun a k g => f.2.1 a k (fun q => g (hA a k q))
  have y : ∀ a k, mL s' a k = mL s a k := fun a k => f.2.2 a k (hB a k)
  exact ⟨h1.f f (fun q => by have := hA _ _ q; omega) (fun k q => by have := hA _ _ q; omega) (fun k q => by have := hA _ _ q; omega), (f.r 42 10).trans h2, ⟨(z 31 0 (by omega)).trans h3.1, (z 31 1 (by omega)).trans h3.2.1, fun i hi => (y 44 i).trans (h3.2.2.1 i hi), fun i hi => (y 44 _).trans (h3.2.2.2 i hi)⟩, ⟨(z 42 3 (by omega)).trans t1, (z 42 4 (by omega)).trans t2, (z 42 5 (by omega)).trans t3, fun q => (z 42 6 (by omega)).trans (t4 q), fun q => (y 42 7).trans (t5 q)⟩, (z 42 9 (by omega)).trans h5.1, (z 42 8 (by omega)).trans h5.2⟩
def kR (T : Nat → Nat) (n : Nat) (s : Sg) (R : RsP) (f : Option (Int32 × Sg)) : Prop := match R with
  | .error q => ∃ s', f = some (0, s') ∧ FR rA rB s s' ∧ mI s' 42 8 = nI q.1 ∧ CC q.2 s'
  | .ok r => ∃ s', f = some (1, s') ∧ FR rA rB s s' ∧ CS T n r.1 r.2 s'
theorem kR_eq {R : RsP} {f g : Option (Int32 × Sg)} (h : f = g) (hg : kR T n s R g) : kR T n s R f := by rw [h]; exact hg
/-- a wrong place -/
theorem kR_wr (h : CE T n e c τ s1) (f : FR rA rB s s1) {q : Nat → Nat} (hc : CC q s1) (j : Nat) : kR T n s (.error (j + 16 * τ.st, q)) (f_bd (f_Rd_wrong (nI j) s1) fun r18 s19 => f_ck (narrow FieldType.boolean (.int r18) = .int r18) <| some (r18, s19)) := by
  obtain ⟨s2, e2, f2, z2⟩ := ce_wrong h j
  refine ⟨s2, ?_, f.tr (fr_rE f2), z2, hc.ee f2⟩
  rw [f_bd_of e2, f_ck_of (by decide)]
theorem nI_m1 {i : Nat} (h : i < 2 ^ 31) : ¬ nI i = -1 := fun q => nI_pos h (by rw [q]; decide)
theorem k_new0 (h : CE T n e c τ s) (ht : TG T n τ) (hn : NmOK e) (h0 : pNew e τ = 0) : f_Rd_isNewName s = some (1, s) := by
  obtain ⟨c2, hw⟩ := pNew_0 h0
  unfold f_Rd_isNewName f_Rd_isNewName_b30
  rw [f_ck_of h.1.b, if_pos (show mI s 42 4 = 2 from (ce_k h ht 2 (by decide)).mpr c2), f_bd_of (k_who h ht hn c2), hw]
  exact if_pos rfl
theorem k_new1 (h : CE T n e c τ s) (ht : TG T n τ) (hn : NmOK e) (h0 : ¬ pNew e τ = 0) : ∃ s', f_Rd_isNewName s = some (0, s') ∧ FR (cE c) cB s s' ∧ mI s' 42 8 = nI (pNew e τ + 16 * τ.st) := by
  unfold f_Rd_isNewName f_Rd_isNewName_b30
  unfold pNew at h0 ⊢
  rw [f_ck_of h.1.b]
  by_cases c2 : τ.k = 2
  · rw [if_pos c2] at h0 ⊢
    rw [if_pos (show mI s 42 4 = 2 from (ce_k h ht 2 (by decide)).mpr c2), f_bd_of (k_who h ht hn c2)]
    cases hw : who e τ.pw with
    | none => rw [hw] at h0; exact absurd rfl h0
    | some i =>
      have hib := who_b hn hw
      have hn1 := hn.1
      obtain ⟨s2, e2, f2, z2⟩ := ce_wrong h 3
      refine ⟨s2, ?_, f2, z2⟩
      rw [if_neg (show ¬ whI (some i) = -1 from nI_m1 (by omega)), f_ck_of h.1.b]
      exact (f_bd_of (show f_Rd_wrong 3 s = some (0, s2) from e2)).trans (if_pos rfl)
  · rw [if_neg c2] at h0 ⊢
    rw [if_neg (show ¬ mI s 42 4 = 2 from fun q => c2 ((ce_k h ht 2 (by decide)).mp q))]
    obtain ⟨s2, e2, f2, z2⟩ := ce_wrong h 1
    refine ⟨s2, ?_, f2, z2⟩
    refine (f_bd_of (show f_Rd_wrong 1 s = some (0, s2) from e2)).trans ?_
    rw [f_ck_of (by decide)]
theorem k_cost (hnp : e.np < 4) : ∀ (f j : Nat) (q : Nat → Nat) (τ : Tok) (s : Sg) (F : Nat), f + j = 3 → f < F → CE T n e c τ s → TG T n τ → CC q s → match pCost (tkn T n) e.np f j q τ with
    | .error y => ∃ s', f_Rd_readPerson_h70 F (nI j) s = some (0, s') ∧ FR rA rB s s' ∧ mI s' 42 8 = nI y.1 ∧ CC y.2 s'
    | .ok r => ∃ s', f_Rd_readPerson_h70 F (nI j) s = f_Rd_readPerson_b132 (nI r.1) s' ∧ FR lA cB s s' ∧ CE T n e c r.2.2 s' ∧ CC r.2.1 s' := by
  intro f
  induction f with
  | zero =>
    intro j q τ s F hj hF h ht hc
    obtain ⟨F, rfl⟩ : ∃ g, F = g + 1 := ⟨F - 1, by omega⟩
    refine ⟨s, ?_, FR.rf _ _ _, h, hc⟩
    show f_Rd_readPerson_b70 (f_Rd_readPerson_h70 F) (nI j) s = _
    unfold f_Rd_readPerson_b70
    rw [if_pos (show (3 : Int32) ≤ nI j from nI_le (a := 3) (by omega) (by omega))]
  | succ f ih =>
    intro j q τ s F hj hF h ht hc
    obtain ⟨F, rfl⟩ : ∃ g, F = g + 1 := ⟨F - 1, by omega⟩
    have hb := h.1.b
    have h70 : f_Rd_readPerson_h70 (F + 1) (nI j) s = f_Rd_readPerson_b70 (f_Rd_readPerson_h70 F) (nI j) s := rfl
    unfold f_Rd_readPerson_b70 at h70
    rw [if_neg (show ¬ (3 : Int32) ≤ nI j from nI_ge (b := 3) (by omega) (by decide)), f_ck_of hb] at h70
    unfold pCost
    by_cases c3 : τ.k = 3
    · rw [if_pos c3]
      rw [if_pos (show mI s 42 4 = 3 from (ce_k h ht 3 (by decide)).mpr c3), h.2.2.2.1.2.2.2.1 c3] at h70
      have hv : τ.v ≤ 9999 := by obtain ⟨p, ht⟩ := ht; exact ht.2.2.2.2.2.1 c3
      by_cases cv : τ.v ≤ 999
      · rw [if_pos cv]
        have ei : nI e.np * 4 + (nI j + 1) = nI (4 * e.np + (j + 1)) := by
          rw [show (4 : Int32) = nI 4 from rfl, nI_mul, nI_1, nI_add, Nat.mul_comm]
        rw [if_pos (show nI τ.v ≤ 999 from nI_le (b := 999) cv (by decide)), f_ck_of h.2.1, f_ck_of h.2.1, h.2.2.1.1, ei, f_ck_of (vp_in_nI (by omega) (by decide)), nI_clamp (by omega)] at h70
        have f1 : FR lA cB s (uI s 33 (4 * e.np + (j + 1)) (nI τ.v)) := fr_uI s _ (Or.inr rfl)
        have f1' : FR (fun a _ => a = 33) NoL s (uI s 33 (4 * e.np + (j + 1)) (nI τ.v)) := fr_uI s _ rfl
        have h1 := h.f f1' (fun a k g => by have g' : a = 33 := g; omega) (fun _ _ g => g)
        have c1 : CC (pud q (4 * e.np + (j + 1)) τ.v) (uI s 33 (4 * e.np + (j + 1)) (nI τ.v)) := fun k hk => by
          by_cases ek : k = 4 * e.np + (j + 1)
          · rw [ek, mI_at, pud_at, if_neg (by omega)]
          · rw [mI_ne _ _ (by omega), pud_ne _ _ ek]; exact hc k hk
        obtain ⟨s2, e2, f2, h2⟩ := ce_take h1 ht
        have h70' : f_Rd_readPerson_h70 (F + 1) (nI j) s = f_Rd_readPerson_h70 F (nI (j + 1)) s2 := by
          refine h70.trans ((f_bd_of e2).trans ?_)
          rw [nI_1]
        have hi := ih (j + 1) _ _ s2 F (by omega) (by omega) h2 ht.tk (c1.cc f2)
        cases hr : pCost (tkn T n) e.np f (j + 1) (pud q (4 * e.np + (j + 1)) τ.v) (tkn T n τ.en) with
        | error y =>
          rw [hr] at hi
          obtain ⟨s3, e3, f3, z3⟩ := hi
          exact ⟨s3, h70'.trans e3, (fr_rL (f1.tr (fr_lC f2))).tr f3, z3⟩
        | ok r =>
          rw [hr] at hi
          obtain ⟨s3, e3, f3, z3⟩ := hi
          exact ⟨s3, h70'.trans e3, (f1.tr (fr_lC f2)).tr f3, z3⟩
      · rw [if_neg cv]
        rw [if_neg (show ¬ nI τ.v ≤ 999 from nI_ge (a := 999) (by omega) (by omega))] at h70
        obtain ⟨s2, e2, f2, z2⟩ := ce_wrong h 4
        refine ⟨s2, ?_, fr_rE f2, z2, hc.ee f2⟩
        rw [h70]
        unfold f_Rd_readPerson_b93
        rw [f_ck_of hb]
        refine (f_bd_of (show f_Rd_wrong 4 s = some (0, s2) from e2)).trans ?_
        rw [f_ck_of (by decide)]
    · rw [if_neg c3]
      rw [if_neg (show ¬ mI s 42 4 = 3 from fun g => c3 ((ce_k h ht 3 (by decide)).mp g))] at h70
      exact ⟨s, h70, FR.rf _ _ _, h, hc⟩
theorem k_pers (h : CS T n z τ s) (hg : PG T n z τ) : kR T n s (pPers (tkn T n) z τ) (f_Rd_readPerson s) := by
  obtain ⟨h, hc, ho⟩ := h
  have hn := hg.1
  have ht := hg.2.2.2.2.2.2
  unfold f_Rd_readPerson pPers
  rw [f_ck_of h.1.b, f_ck_of h.2.1, h.2.2.1.1]
  by_cases c4 : z.e.np < 4
  · rw [if_pos (show nI z.e.np < 4 from nI_lt (b := 4) c4 (by decide)), if_pos c4]
    obtain ⟨s1, e1, f1, h1⟩ := ce_take h ht
    have t1 := ht.tk
    have hc1 := hc.cc f1
    have ho1 := ho.cc f1
    rw [f_bd_of e1, f_ck_of h1.1.b]
    unfold pPers1
    by_cases cn : pNew z.e (tkn T n τ.en) = 0
    · obtain ⟨n2, -⟩ := pNew_0 cn
      have w7 : mL s1 42 7 = lN (tkn T n τ.en).pw := h1.2.2.2.1.2.2.2.2 n2
      rw [if_pos cn, f_bd_of (k_new0 h1 t1 hn cn), if_neg (show ¬ (1 : Int32) = 0 by decide), f_ck_of h1.1.b, f_ck_of h1.2.1, h1.2.2.1.1, f_ck_of (vp_in_nI (by omega) (by decide)), nI_clamp (by omega), w7]
      have f2 : FR rA rB s1 (uL s1 44 z.e.np (lN (tkn T n τ.en).pw)) := fr_uL s1 _ (Or.inr rfl)
      have h2 : CE T n z.e (cps z.la z.ln) (tkn T n τ.en) (uL s1 44 z.e.np (lN (tkn T n τ.en).pw)) := by
        obtain ⟨q1, q2, q3, ⟨p1, p2, p3, p4, p5⟩, q5⟩ := h1
        refine ⟨q1, q2, ⟨q3.1, q3.2.1, fun i hi => ?_, fun i hi => ?_⟩, ⟨p1, p2, p3, p4, fun q => ?_⟩, q5⟩
        · rw [mL_ne _ _ (by omega)]; exact q3.2.2.1 i hi
        · rw [mL_ne _ _ (by omega)]; exact q3.2.2.2 i hi
        · rw [mL_ne _ _ (by omega)]; exact p5 q
      have r44 : mL (uL s1 44 z.e.np (lN (tkn T n τ.en).pw)) 44 z.e.np = lN (tkn T n τ.en).pw := mL_at _ _ _ _
      have hc2 : CC z.cst (uL s1 44 z.e.np (lN (tkn T n τ.en).pw)) := hc1
      have ho2 : CO z (uL s1 44 z.e.np (lN (tkn T n τ.en).pw)) := ho1.f (fr_uL (A := NoL) (B := rB) s1 _ (Or.inr rfl)) (fun q => q) (fun _ q => q) (fun _ q => q) (fun _ q => q) (fun _ _ q => q)
      generalize uL s1 44 z.e.np (lN (tkn T n τ.en).pw) = s2 at *
      obtain ⟨s3, e3, f3, h3⟩ := ce_take h2 t1
      have t2 := t1.tk
      have hc3 := hc2.cc f3
      have ho3 := ho2.cc f3
      have f03 : FR rA rB s s3 := ((fr_rC f1).tr f2).tr (fr_rC f3)
      refine kR_eq (f_bd_of e3) ?_
      rw [f_ck_of h3.1.b]
      unfold pPers2
      by_cases c5 : (tkn T n (tkn T n τ.en).en).k = 5
      · rw [if_pos c5, if_pos (show mI s3 42 4 = 5 from (ce_k h3 t2 5 (by decide)).mpr c5)]
        obtain ⟨s4, e4, f4, h4⟩ := ce_take h3 t2
        have hc4 := hc3.cc f4
        have ho4 := ho3.cc f4
        have hgG := pCost_G (np := z.e.np) 3 0 z.cst _ t2.tk rfl hg.2.1
        have hk := k_cost (T := T) (n := n) (e := z.e) (c := cps z.la z.ln) c4 3 0 z.cst _ s4 zl_fl rfl (by rw [zl_4096]; omega) h4 t2.tk hc4
        rw [f_bd_of e4]
        cases hr : pCost (tkn T n) z.e.np 3 0 z.cst (tkn T n (tkn T n (tkn T n τ.en).en).en) with
        | error y =>
          rw [hr] at hk
          obtain ⟨s5, e5, f5, z5, c5'⟩ := hk
          exact ⟨s5, e5, (f03.tr (fr_rC f4)).tr f5, z5, c5'⟩
        | ok r =>
          rw [hr] at hk hgG
          obtain ⟨s5, e5, f5, h5, hc5⟩ := hk
          obtain ⟨g1, g2, g3, g4⟩ := hgG
          have ho5 := ho4.l f5
          have f05 : FR rA rB s s5 := (f03.tr (fr_rC f4)).tr (fr_rL f5)
          have e5' : f_Rd_readPerson_h70 zl_fl 0 s4 = f_Rd_readPerson_b132 (nI r.1) s5 := e5
          refine kR_eq e5' ?_
          show kR T n s (pPersE (tkn T n) z ((tkn T n τ.en).pw, (tkn T n τ.en).hw) r) _
          unfold pPersE f_Rd_readPerson_b132 f_Rd_readPerson_b145
          have hwr : kR T n s (.error (1 + 16 * r.2.2.st, r.2.1)) (f_ck (zl_B s5) <| f_bd (f_Rd_wrong 1 s5) fun r52 s53 => f_ck (narrow FieldType.boolean (.int r52) = .int r52) <| some (r52, s53)) := by
            rw [f_ck_of h5.1.b]
            exact kR_wr h5 f05 hc5 1
          by_cases c0 : r.1 = 0
          · rw [if_pos c0, if_pos (show nI r.1 = 0 by rw [c0]; rfl)]
            exact hwr
          · rw [if_neg c0, if_neg (nI_ne0 (by omega) (by omega)), f_ck_of h5.1.b]
            by_cases c59 : r.2.2.k = 59
            · rw [if_pos c59, if_pos (show mI s5 42 4 = 59 from (ce_k h5 g1 59 (by decide)).mpr c59), f_ck_of h5.2.1, f_ck_of h5.2.1, h5.2.2.1.1, f_ck_of (vp_in_nI c4 (by decide)), nI_clamp (by omega)]
              have f6 : FR rA rB s5 (uI (uI s5 32 z.e.np (nI r.1)) 31 0 (nI (z.e.np + 1))) := (fr_uI s5 _ (Or.inl (by omega))).tr (fr_uI _ _ (Or.inl (by omega)))
              have r31 : mI (uI s5 32 z.e.np (nI r.1)) 31 0 = nI z.e.np := by rw [mI_ne _ _ (by omega)]; exact h5.2.2.1.1
              have z5 : ∀ a k, ¬ (a = 32 ∨ (a = 31 ∧ k = 0)) → mI (uI (uI s5 32 z.e.np (nI r.1)) 31 0 (nI (z.e.np + 1))) a k = mI s5 a k := fun a k g => by rw [mI_ne _ _ (by omega), mI_ne _ _ (by omega)]
              have h6 : CE T n (addP z.e ((tkn T n τ.en).pw, (tkn T n τ.en).hw)) (cps z.la z.ln) r.2.2 (uI (uI s5 32 z.e.np (nI r.1)) 31 0 (nI (z.e.np + 1))) := by
                obtain ⟨q1, q2, q3, ⟨p1, p2, p3, p4, p5⟩, q5⟩ := h5
                refine ⟨⟨q1.1, q1.2.1, (z5 42 2 (by omega)).trans q1.2.2.1, fun k hk => ⟨(z5 43 k (by omega)).trans (q1.2.2.2.1 k hk).1, (q1.2.2.2.1 k hk).2⟩, fun k => (z5 3 k (by omega)).trans (q1.2.2.2.2 k)⟩, q2, ⟨mI_at _ _ _ _, (z5 31 1 (by omega)).trans q3.2.1, fun i hi => ?_, fun i hi => q3.2.2.2 i hi⟩, ⟨(z5 42 3 (by omega)).trans p1, (z5 42 4 (by omega)).trans p2, (z5 42 5 (by omega)).trans p3, fun q => (z5 42 6 (by omega)).trans (p4 q), p5⟩, (z5 42 9 (by omega)).trans q5.1, (z5 42 8 (by omega)).trans q5.2⟩
                show mL s5 44 i = lN (pud z.e.pn z.e.np ((tkn T n τ.en).pw, (tkn T n τ.en).hw) i).1
                by_cases ei : i = z.e.np
                · rw [ei, pud_at]
                  have : mL s5 44 z.e.np = mL s2 44 z.e.np := ((f5.2.2 44 _ (by unfold cB; omega)).trans (f4.2.2 44 _ (by unfold cB; omega))).trans (f3.2.2 44 _ (by unfold cB; omega))
                  exact this.trans r44
                · rw [pud_ne _ _ ei]
                  have hi' : i < z.e.np + 1 := hi
                  exact q3.2.2.1 i (by omega)
              have hc6 : CC r.2.1 (uI (uI s5 32 z.e.np (nI r.1)) 31 0 (nI (z.e.np + 1))) := fun k hk => (z5 33 k (by omega)).trans (hc5 k hk)
              obtain ⟨s7, e7, f7, h7⟩ := ce_take h6 g1
              have ho6 : CO (addP z.e ((tkn T n τ.en).pw, (tkn T n τ.en).hw), r.2.1, pud z.stp z.e.np r.1, z.ln, z.la, z.lw) (uI (uI s5 32 z.e.np (nI r.1)) 31 0 (nI (z.e.np + 1))) := by
                obtain ⟨a1, a2, a3, a4, a5⟩ := ho5
                refine ⟨(z5 31 2 (by omega)).trans a1, fun p hp => ?_, fun i hi => (z5 34 i (by omega)).trans (a3 i hi), fun i hi => (z5 35 i (by omega)).trans (a4 i hi), fun i hi => HC_cg (fun k hk => z5 36 _ (by omega)) (a5 i hi)⟩
                show mI _ 32 p = nI (pud z.stp z.e.np r.1 p)
                rw [mI_ne _ _ (by omega)]
                by_cases ep : p = z.e.np
                · rw [ep, mI_at, pud_at]
                · rw [mI_ne _ _ (by omega), pud_ne _ _ ep]
                  have hp' : p < z.e.np + 1 := hp
                  exact a2 p (by omega)
              refine ⟨s7, ?_, (f05.tr f6).tr (fr_rC f7), h7, hc6.cc f7, ho6.cc f7⟩
              rw [f_ck_of (show mR (uI s5 32 z.e.np (nI r.1)) 42 10 = some 31 from h5.2.1), r31, nI_1]
              exact f_bd_of e7
            · rw [if_neg c59, if_neg (show ¬ mI s5 42 4 = 59 from fun q => c59 ((ce_k h5 g1 59 (by decide)).mp q))]
              exact hwr
      · rw [if_neg c5, if_neg (show ¬ mI s3 42 4 = 5 from fun q => c5 ((ce_k h3 t2 5 (by decide)).mp q))]
        exact kR_wr h3 f03 hc3 1
    · rw [if_neg cn]
      obtain ⟨s2, e2, f2, z2⟩ := k_new1 h1 t1 hn cn
      refine ⟨s2, ?_, (fr_rC f1).tr (fr_rE f2), z2, hc1.ee f2⟩
      rw [f_bd_of e2, if_pos rfl]
  · rw [if_neg (show ¬ nI z.e.np < 4 from nI_nlt (b := 4) (by omega) (by have := hn.1.1; omega)), if_neg c4]
    exact kR_wr h (FR.rf _ _ _) hc 5
theorem k_thin (h : CS T n z τ s) (hg : PG T n z τ) : kR T n s (pThin (tkn T n) z τ) (f_Rd_readThing s) := by
  obtain ⟨h, hc, ho⟩ := h
  have hn := hg.1
  have ht := hg.2.2.2.2.2.2
  unfold f_Rd_readThing pThin
  rw [f_ck_of h.1.b, f_ck_of h.2.1, h.2.2.1.2.1]
  by_cases c4 : z.e.nt < 3
  · rw [if_pos (show nI z.e.nt < 3 from nI_lt (b := 3) c4 (by decide)), if_pos c4]
    obtain ⟨s1, e1, f1, h1⟩ := ce_take h ht
    have t1 := ht.tk
    have hc1 := hc.cc f1
    have ho1 := ho.cc f1
    rw [f_bd_of e1, f_ck_of h1.1.b]
    unfold pThin1
    by_cases cn : pNew z.e (tkn T n τ.en) = 0
    · obtain ⟨n2, -⟩ := pNew_0 cn
      have w7 : mL s1 42 7 = lN (tkn T n τ.en).pw := h1.2.2.2.1.2.2.2.2 n2
      have e4 : (4 : Int32) + nI z.e.nt = nI (4 + z.e.nt) := nI_add 4 _
      rw [if_pos cn, f_bd_of (k_new0 h1 t1 hn cn), if_neg (show ¬ (1 : Int32) = 0 by decide), f_ck_of h1.1.b, f_ck_of h1.2.1, h1.2.2.1.2.1, e4, f_ck_of (vp_in_nI (by omega) (by decide)), nI_clamp (by omega), w7]
      have f2 : FR rA rB s1 (uL s1 44 (4 + z.e.nt) (lN (tkn T n τ.en).pw)) := fr_uL s1 _ (Or.inr rfl)
      have h2 : CE T n z.e (cps z.la z.ln) (tkn T n τ.en) (uL s1 44 (4 + z.e.nt) (lN (tkn T n τ.en).pw)) := by
        obtain ⟨q1, q2, q3, ⟨p1, p2, p3, p4, p5⟩, q5⟩ := h1
        have hn1 := hn.1.1
        refine ⟨q1, q2, ⟨q3.1, q3.2.1, fun i hi => ?_, fun i hi => ?_⟩, ⟨p1, p2, p3, p4, fun q => ?_⟩, q5⟩
        · rw [mL_ne _ _ (by omega)]; exact q3.2.2.1 i hi
        · rw [mL_ne _ _ (by omega)]; exact q3.2.2.2 i hi
        · rw [mL_ne _ _ (by omega)]; exact p5 q
      have r44 : mL (uL s1 44 (4 + z.e.nt) (lN (tkn T n τ.en).pw)) 44 (4 + z.e.nt) = lN (tkn T n τ.en).pw := mL_at _ _ _ _
      have hc2 : CC z.cst (uL s1 44 (4 + z.e.nt) (lN (tkn T n τ.en).pw)) := hc1
      have ho2 : CO z (uL s1 44 (4 + z.e.nt) (lN (tkn T n τ.en).pw)) := ho1.f (fr_uL (A := NoL) (B := rB) s1 _ (Or.inr rfl)) (fun q => q) (fun _ q => q) (fun _ q => q) (fun _ q => q) (fun _ _ q => q)
      generalize uL s1 44 (4 + z.e.nt) (lN (tkn T n τ.en).pw) = s2 at *
      obtain ⟨s3, e3, f3, h3⟩ := ce_take h2 t1
      have t2 := t1.tk
      have hc3 := hc2.cc f3
      have ho3 := ho2.cc f3
      have f03 : FR rA rB s s3 := ((fr_rC f1).tr f2).tr (fr_rC f3)
      refine kR_eq (f_bd_of e3) ?_
      rw [f_ck_of h3.1.b]
      unfold pThin2
      by_cases c5 : (tkn T n (tkn T n τ.en).en).k = 59
      · rw [if_pos c5, if_pos (show mI s3 42 4 = 59 from (ce_k h3 t2 59 (by decide)).mpr c5), f_ck_of h3.2.1, h3.2.2.1.2.1, nI_1]
        have f6 : FR rA rB s3 (uI s3 31 1 (nI (z.e.nt + 1))) := fr_uI s3 _ (Or.inl (by omega))
        have z5 : ∀ a k, ¬ (a = 31 ∧ k = 1) → mI (uI s3 31 1 (nI (z.e.nt + 1))) a k = mI s3 a k := fun a k g => mI_ne _ _ g
        have h6 : CE T n (addT z.e ((tkn T n τ.en).pw, (tkn T n τ.en).hw)) (cps z.la z.ln) (tkn T n (tkn T n τ.en).en) (uI s3 31 1 (nI (z.e.nt + 1))) := by
          obtain ⟨q1, q2, q3, ⟨p1, p2, p3, p4, p5⟩, q5⟩ := h3
          refine ⟨⟨q1.1, q1.2.1, (z5 42 2 (by omega)).trans q1.2.2.1, fun k hk => ⟨(z5 43 k (by omega)).trans (q1.2.2.2.1 k hk).1, (q1.2.2.2.1 k hk).2⟩, fun k => (z5 3 k (by omega)).trans (q1.2.2.2.2 k)⟩, q2, ⟨(z5 31 0 (by omega)).trans q3.1, mI_at _ _ _ _, fun i hi => q3.2.2.1 i hi, fun i hi => ?_⟩, ⟨(z5 42 3 (by omega)).trans p1, (z5 42 4 (by omega)).trans p2, (z5 42 5 (by omega)).trans p3, fun q => (z5 42 6 (by omega)).trans (p4 q), p5⟩, (z5 42 9 (by omega)).trans q5.1, (z5 42 8 (by omega)).trans q5.2⟩
          show mL s3 44 (4 + i) = lN (pud z.e.tn z.e.nt ((tkn T n τ.en).pw, (tkn T n τ.en).hw) i).1
          by_cases ei : i = z.e.nt
          · rw [ei, pud_at]
            exact (f3.2.2 44 _ (by unfold cB; omega)).trans r44
          · rw [pud_ne _ _ ei]
            have hi' : i < z.e.nt + 1 := hi
            exact q3.2.2.2 i (by omega)
        have hc6 : CC z.cst (uI s3 31 1 (nI (z.e.nt + 1))) := fun k hk => (z5 33 k (by omega)).trans (hc3 k hk)
        obtain ⟨s7, e7, f7, h7⟩ := ce_take h6 t2
        have ho6 : CO (addT z.e ((tkn T n τ.en).pw, (tkn T n τ.en).hw), z.cst, z.stp, z.ln, z.la, z.lw) (uI s3 31 1 (nI (z.e.nt + 1))) := by
          obtain ⟨a1, a2, a3, a4, a5⟩ := ho3
          exact ⟨(z5 31 2 (by omega)).trans a1, fun p hp => (z5 32 p (by omega)).trans (a2 p hp), fun i hi => (z5 34 i (by omega)).trans (a3 i hi), fun i hi => (z5 35 i (by omega)).trans (a4 i hi), fun i hi => HC_cg (fun k hk => z5 36 _ (by omega)) (a5 i hi)⟩
        refine ⟨s7, ?_, (f03.tr f6).tr (fr_rC f7), h7, hc6.cc f7, ho6.cc f7⟩
        exact f_bd_of e7
      · rw [if_neg c5, if_neg (show ¬ mI s3 42 4 = 59 from fun q => c5 ((ce_k h3 t2 59 (by decide)).mp q))]
        exact kR_wr h3 f03 hc3 1
    · rw [if_neg cn]
      obtain ⟨s2, e2, f2, z2⟩ := k_new1 h1 t1 hn cn
      refine ⟨s2, ?_, (fr_rC f1).tr (fr_rE f2), z2, hc1.ee f2⟩
      rw [f_bd_of e2, if_pos rfl]
  · rw [if_neg (show ¬ nI z.e.nt < 3 from nI_nlt (b := 3) (by omega) (by have := hn.1.2; omega)), if_neg c4]
    exact kR_wr h (FR.rf _ _ _) hc 5
/-- with whom and what -/
theorem k_nms (hn : NmOK e) (hnn : n ≤ 1000) : ∀ (f w x2 : Nat) (τ : Tok) (s : Sg) (F : Nat), n + 1 ≤ f + τ.st → f < F → x2 ≤ τ.st → w < 128 → CE T n e c τ s → TG T n τ → match pNms (tkn T n) e f w τ with
    | .error y => ∃ s', f_Rd_readLine_h56 F (nI w) (nI x2) s = some (0, s') ∧ FR (cE c) cB s s' ∧ mI s' 42 8 = nI y
    | .ok r => ∃ s', f_Rd_readLine_h56 F (nI w) (nI x2) s = f_Rd_readLine_b118 (nI r.1) s' ∧ FR cA cB s s' ∧ CE T n e c r.2 s' := by
  intro f
  induction f with
  | zero => intro w x2 τ s F hf hF hx hw h ht; have := ht.st.1; exact absurd hf (by omega)
  | succ f ih =>
    intro w x2 τ s F hf hF hx hw h ht
    obtain ⟨F, rfl⟩ : ∃ g, F = g + 1 := ⟨F - 1, by omega⟩
    have hb := h.1.b
    have hst := ht.st
    have hn1 := hn.1
    have h56 : f_Rd_readLine_h56 (F + 1) (nI w) (nI x2) s = f_Rd_readLine_b56 (f_Rd_readLine_h56 F) (nI w) (nI x2) s := rfl
    unfold f_Rd_readLine_b56 at h56
    unfold pNms
    by_cases c2 : τ.k = 2
    · rw [if_pos c2]
      have hlt := hst.2.1 (by omega)
      rw [if_neg (show ¬ (1000 : Int32) ≤ nI x2 from nI_ge (b := 1000) (by omega) (by decide)), f_ck_of hb, if_pos (show mI s 42 4 = 2 from (ce_k h ht 2 (by decide)).mpr c2), f_bd_of (k_who h ht hn c2)] at h56
      cases hi : who e τ.pw with
      | none =>
        rw [hi, if_pos (show whI none = -1 from rfl)] at h56
        obtain ⟨s2, e2, f2, z2⟩ := ce_wrong h 2
        refine ⟨s2, ?_, f2, z2⟩
        rw [h56]
        unfold f_Rd_readLine_b81
        rw [f_ck_of hb]
        refine (f_bd_of (show f_Rd_wrong 2 s = some (0, s2) from e2)).trans ?_
        rw [f_ck_of (by decide)]
      | some i =>
        have hib := who_b hn hi
        rw [hi, if_neg (show ¬ whI (some i) = -1 from nI_m1 (by omega)), show whI (some i) = nI i from rfl, bit_at (by omega) (by omega)] at h56
        show match (if w / 2 ^ i % 2 = 1 then .error (3 + 16 * τ.st) else pNms (tkn T n) e f (w + 2 ^ i) (tkn T n τ.en) : Except Nat (Nat × Tok)) with
          | .error y => ∃ s', f_Rd_readLine_h56 (F + 1) (nI w) (nI x2) s = some (0, s') ∧ FR (cE c) cB s s' ∧ mI s' 42 8 = nI y
          | .ok r => ∃ s', f_Rd_readLine_h56 (F + 1) (nI w) (nI x2) s = f_Rd_readLine_b118 (nI r.1) s' ∧ FR cA cB s s' ∧ CE T n e c r.2 s'
        have hm2 : w / 2 ^ i % 2 < 2 := Nat.mod_lt _ (by decide)
        by_cases cb : w / 2 ^ i % 2 = 1
        · rw [if_pos cb]
          rw [if_pos (show nI (w / 2 ^ i % 2) = 1 by rw [cb]; rfl)] at h56
          obtain ⟨s2, e2, f2, z2⟩ := ce_wrong h 3
          refine ⟨s2, ?_, f2, z2⟩
          rw [h56]
          unfold f_Rd_readLine_b96
          rw [f_ck_of hb]
          refine (f_bd_of (show f_Rd_wrong 3 s = some (0, s2) from e2)).trans ?_
          rw [f_ck_of (by decide)]
        · rw [if_neg cb]
          obtain ⟨b1, b2⟩ := bt_ad w hw i (by omega) cb
          obtain ⟨s2, e2, f2, h2⟩ := ce_take h ht
          rw [if_neg (show ¬ nI (w / 2 ^ i % 2) = 1 from fun q => cb ((nI_eq (b := 1) (by omega) (by decide)).mp q)), f_ck_of hb, f_bd_of e2, shl_p i (by omega), nI_or, b2, nI_1] at h56
          have hh := ih (w + 2 ^ i) (x2 + 1) _ s2 F (by omega) (by omega) (by omega) b1 h2 ht.tk
          cases hr : pNms (tkn T n) e f (w + 2 ^ i) (tkn T n τ.en) with
          | error y =>
            rw [hr] at hh
            obtain ⟨s3, e3, f3, z3⟩ := hh
            exact ⟨s3, h56.trans e3, (fr_cA f2 c).tr f3, z3⟩
          | ok r =>
            rw [hr] at hh
            obtain ⟨s3, e3, f3, z3⟩ := hh
            exact ⟨s3, h56.trans e3, f2.tr f3, z3⟩
    · rw [if_neg c2]
      refine ⟨s, ?_, FR.rf _ _ _, h⟩
      rw [h56]
      by_cases cx : 1000 ≤ x2
      · rw [if_pos (show (1000 : Int32) ≤ nI x2 from nI_le (a := 1000) cx (by omega))]
      · rw [if_neg (show ¬ (1000 : Int32) ≤ nI x2 from nI_ge (b := 1000) (by omega) (by decide)), f_ck_of hb, if_neg (show ¬ mI s 42 4 = 2 from fun q => c2 ((ce_k h ht 2 (by decide)).mp q))]
theorem k_linR (h : CS T n z τ s) (hg : PG T n z τ) (hk : τ.k ≠ 0) : kR T n s (pLine (tkn T n) z τ) (f_Rd_readLine s) := by
  obtain ⟨h, hc, ho⟩ := h
  have hn := hg.1
  have ht := hg.2.2.2.2.2.2
  have hln := hg.2.2.2.1
  have hpos := hg.2.2.2.2.2.1
  have hnn := h.1.2.1
  unfold f_Rd_readLine pLine
  rw [f_ck_of h.1.b, f_ck_of h.2.1, ho.1]
  by_cases c4 : z.ln < 8
  · rw [if_pos (show nI z.ln < 8 from nI_lt (b := 8) c4 (by decide)), if_pos c4]
    obtain ⟨s1, e1, f1, h1⟩ := ce_take h ht
    have t1 := ht.tk
    have hc1 := hc.cc f1
    have ho1 := ho.cc f1
    have st1 := ht.st.2.2
    rw [f_bd_of e1, f_ck_of h1.1.b]
    have hE := (kE (T := T) (n := n) hn 40).1 0 0 _ s1 _ (by decide) (by decide) (by decide) h1 t1 (by omega)
    have hgG := (pE_G (T := T) (n := n) (e := z.e) 40).1 0 0 _ t1
    cases hr : (pE (tkn T n) z.e 40).1 0 0 (tkn T n τ.en) with
    | error y =>
      rw [hr] at hE
      obtain ⟨s2, e2, f2, z2⟩ := hE
      refine ⟨s2, ?_, (fr_rC f1).tr (fr_rE f2), z2, hc1.ee f2⟩
      refine (f_bd_of (show f_Rd_rj 0 0 s1 = some (0, s2) from e2)).trans ?_
      rw [if_pos rfl]
    | ok r =>
      rw [hr] at hE hgG
      obtain ⟨s2, e2, f2, h2, cd2⟩ := hE
      obtain ⟨g1, g2, g3⟩ := hgG
      have hc2 := hc1.ee f2
      have ho2 := ho1.ee f2
      have f02 : FR rA rB s s2 := (fr_rC f1).tr (fr_rE f2)
      refine kR_eq (f_bd_of (show f_Rd_rj 0 0 s1 = some (1, s2) from e2)) ?_
      rw [if_neg (show ¬ (1 : Int32) = 0 by decide), f_ck_of h2.1.b]
      show kR T n s (pLin1 (tkn T n) z r) _
      unfold pLin1
      by_cases c8 : r.2.k = 8
      · rw [if_pos c8, if_pos (show mI s2 42 4 = 8 from (ce_k h2 g1 8 (by decide)).mpr c8)]
        obtain ⟨s3, e3, f3, h3⟩ := ce_take h2 g1
        have hc3 := hc2.cc f3
        have ho3 := ho2.cc f3
        have t3 := g1.tk
        have f03 : FR rA rB s s3 := f02.tr (fr_rC f3)
        rw [f_bd_of e3]
        have hN := k_nms (T := T) (n := n) (e := z.e) hn hnn 1001 0 0 _ s3 zl_fl (by omega) (by rw [zl_4096]; omega) (Nat.zero_le _) (by decide) h3 t3
        have hNG := pNms_G (T := T) (n := n) hn 1001 0 _ t3 (by decide)
        cases hr2 : pNms (tkn T n) z.e 1001 0 (tkn T n r.2.en) with
        | error y =>
          rw [hr2] at hN
          obtain ⟨s4, e4, f4, z4⟩ := hN
          exact ⟨s4, e4, f03.tr (fr_rE f4), z4, hc3.ee f4⟩
        | ok r2 =>
          rw [hr2] at hN hNG
          obtain ⟨s4, e4, f4, h4⟩ := hN
          obtain ⟨k1, k2, k3⟩ := hNG
          have hc4 := hc3.cc f4
          have ho4 := ho3.cc f4
          have f04 : FR rA rB s s4 := f03.tr (fr_rC f4)
          have cd4 : HC s4 36 (cps z.la z.ln) r.1.1 := HC_cg (fun k hk => (f3.tr f4).2.1 36 _ (by unfold cA; omega)) cd2
          refine kR_eq (show f_Rd_readLine_h56 zl_fl 0 0 s3 = _ from e4) ?_
          show kR T n s (pLinE (tkn T n) z r.1 r2) _
          unfold pLinE f_Rd_readLine_b118 f_Rd_readLine_b131
          have hwr : kR T n s (.error (1 + 16 * r2.2.st, z.cst)) (f_ck (zl_B s4) <| f_bd (f_Rd_wrong 1 s4) fun r54 s55 => f_ck (narrow FieldType.boolean (.int r54) = .int r54) <| some (r54, s55)) := by
            rw [f_ck_of h4.1.b]
            exact kR_wr h4 f04 hc4 1
          by_cases c0 : r2.1 = 0
          · rw [if_pos c0, if_pos (show nI r2.1 = 0 by rw [c0]; rfl)]
            exact hwr
          · rw [if_neg c0, if_neg (nI_ne0 (by omega) (by omega)), f_ck_of h4.1.b]
            by_cases c59 : r2.2.k = 59
            · rw [if_pos c59, if_pos (show mI s4 42 4 = 59 from (ce_k h4 k1 59 (by decide)).mpr c59), f_ck_of h4.2.1, f_ck_of h4.2.1, ho4.1, f_ck_of (vp_in_nI c4 (by decide)), nI_clamp (by omega)]
              have r31 : mI (uI s4 34 z.ln (nI r2.1)) 31 2 = nI z.ln := by rw [mI_ne _ _ (by omega)]; exact ho4.1
              have r31b : mI (uI (uI s4 34 z.ln (nI r2.1)) 31 2 (nI (z.ln + 1))) 31 2 = nI (z.ln + 1) := mI_at _ _ _ _
              have r42 : mI (uI (uI s4 34 z.ln (nI r2.1)) 31 2 (nI (z.ln + 1))) 42 9 = nI (cps z.la z.ln + r.1.1.length) := by rw [mI_ne _ _ (by omega), mI_ne _ _ (by omega)]; exact h4.2.2.2.2.1
              have z5 : ∀ a k, ¬ (a = 34 ∧ k = z.ln) → ¬ (a = 31 ∧ k = 2) → ¬ (a = 35 ∧ k = z.ln + 1) → mI (uI (uI (uI s4 34 z.ln (nI r2.1)) 31 2 (nI (z.ln + 1))) 35 (z.ln + 1) (nI (cps z.la z.ln + r.1.1.length))) a k = mI s4 a k := fun a k q1 q2 q3 => by rw [mI_ne _ _ q3, mI_ne _ _ q2, mI_ne _ _ q1]
              have f5 : FR (fun a k => a = 34 ∨ (a = 31 ∧ k = 2) ∨ (a = 35 ∧ k ≠ 0)) NoL s4 (uI (uI (uI s4 34 z.ln (nI r2.1)) 31 2 (nI (z.ln + 1))) 35 (z.ln + 1) (nI (cps z.la z.ln + r.1.1.length))) := ((fr_uI s4 _ (Or.inl rfl)).tr (fr_uI _ _ (Or.inr (Or.inl ⟨rfl, rfl⟩)))).tr (fr_uI _ _ (Or.inr (Or.inr ⟨rfl, by omega⟩)))
              have h5 := h4.f f5 (fun a k g => by have g' : a = 34 ∨ (a = 31 ∧ k = 2) ∨ (a = 35 ∧ k ≠ 0) := g; omega) (fun _ _ g => g)
              have hc5 : CC z.cst (uI (uI (uI s4 34 z.ln (nI r2.1)) 31 2 (nI (z.ln + 1))) 35 (z.ln + 1) (nI (cps z.la z.ln + r.1.1.length))) := fun k hk => (z5 33 k (by omega) (by omega) (by omega)).trans (hc4 k hk)
              obtain ⟨s7, e7, f7, h7⟩ := ce_take h5 k1
              have ec : cps (pud z.la z.ln r.1) (z.ln + 1) = cps z.la z.ln + r.1.1.length := by
                show cps (pud z.la z.ln r.1) z.ln + (pud z.la z.ln r.1 z.ln).1.length = _
                rw [cps_up _ (Nat.le_refl _), pud_at]
              have ho5 : CO (z.e, z.cst, z.stp, z.ln + 1, pud z.la z.ln r.1, pud z.lw z.ln r2.1) (uI (uI (uI s4 34 z.ln (nI r2.1)) 31 2 (nI (z.ln + 1))) 35 (z.ln + 1) (nI (cps z.la z.ln + r.1.1.length))) := by
                obtain ⟨a1, a2, a3, a4, a5⟩ := ho4
                refine ⟨by rw [mI_ne _ _ (by omega)]; exact mI_at _ _ _ _, fun p hp => (z5 32 p (by omega) (by omega) (by omega)).trans (a2 p hp), fun i hi => ?_, fun i hi => ?_, fun i hi => ?_⟩
                · show mI _ 34 i = nI (pud z.lw z.ln r2.1 i)
                  have hi' : i < z.ln + 1 := hi
                  by_cases ei : i = z.ln
                  · rw [ei, pud_at, mI_ne _ _ (by omega), mI_ne _ _ (by omega), mI_at]
                  · rw [pud_ne _ _ ei, z5 34 i (by omega) (by omega) (by omega)]
                    exact a3 i (by omega)
                · show mI _ 35 i = nI (cps (pud z.la z.ln r.1) i)
                  have hi' : i ≤ z.ln + 1 := hi
                  by_cases ei : i = z.ln + 1
                  · rw [ei, mI_at, ec]
                  · rw [cps_up _ (by omega), z5 35 i (by omega) (by omega) (by omega)]
                    exact a4 i (by omega)
                · show HC _ 36 (cps (pud z.la z.ln r.1) i) (pud z.la z.ln r.1 i).1
                  have hi' : i < z.ln + 1 := hi
                  rw [cps_up _ (by omega)]
                  by_cases ei : i = z.ln
                  · rw [ei, pud_at]
                    exact HC_cg (fun k hk => z5 36 _ (by omega) (by omega) (by omega)) cd4
                  · rw [pud_ne _ _ ei]
                    exact HC_cg (fun k hk => z5 36 _ (by omega) (by omega) (by omega)) (a5 i (by omega))
              have h7' : CE T n z.e (cps (pud z.la z.ln r.1) (z.ln + 1)) (tkn T n r2.2.en) s7 := by rw [ec]; exact h7
              have f5r : FR rA rB s4 _ := f5.mo (fun a k g => by have g' : a = 34 ∨ (a = 31 ∧ k = 2) ∨ (a = 35 ∧ k ≠ 0) := g; unfold rA; omega) (fun _ _ g => absurd g (fun q => q))
              refine ⟨s7, ?_, (f04.tr f5r).tr (fr_rC f7), h7', hc5.cc f7, ho5.cc f7⟩
              rw [f_ck_of (show mR (uI s4 34 z.ln (nI r2.1)) 42 10 = some 31 from h4.2.1), r31, nI_1, f_ck_of (show mR (uI (uI s4 34 z.ln (nI r2.1)) 31 2 (nI (z.ln + 1))) 42 10 = some 31 from h4.2.1), f_ck_of (show mR (uI (uI s4 34 z.ln (nI r2.1)) 31 2 (nI (z.ln + 1))) 42 10 = some 31 from h4.2.1), r31b, r42, f_ck_of (vp_in_nI (by omega) (by decide)), nI_clamp (by omega)]
              exact f_bd_of e7
            · rw [if_neg c59, if_neg (show ¬ mI s4 42 4 = 59 from fun q => c59 ((ce_k h4 k1 59 (by decide)).mp q))]
              exact hwr
      · rw [if_neg c8, if_neg (show ¬ mI s2 42 4 = 8 from fun q => c8 ((ce_k h2 g1 8 (by decide)).mp q))]
        exact kR_wr h2 f02 hc2 1
  · rw [if_neg (show ¬ nI z.ln < 8 from nI_nlt (b := 8) (by omega) (by omega)), if_neg c4]
    exact kR_wr h (FR.rf _ _ _) hc 5
end
