/-! works: the class reads a sum -/
section
variable {s s' s1 s2 : Sg} {T : Nat → Nat} {n p c : Nat} {e : Nm} {τ : Tok}
def cE (c a k : Nat) : Prop := (a = 42 ∧ ((3 ≤ k ∧ k ≤ 6) ∨ k = 8 ∨ k = 9)) ∨ (a = 36 ∧ c ≤ k)
def CN (e : Nm) (s : Sg) : Prop := mI s 31 0 = nI e.np ∧ mI s 31 1 = nI e.nt ∧ (∀ i, i < e.np → mL s 44 i = lN (e.pn i).1) ∧ (∀ i, i < e.nt → mL s 44 (4 + i) = lN (e.tn i).1)
def CE (T : Nat → Nat) (n : Nat) (e : Nm) (c : Nat) (τ : Tok) (s : Sg) : Prop := CTx T n s ∧ mR s 42 10 = some 31 ∧ CN e s ∧ CTk s τ ∧ mI s 42 9 = nI c ∧ mI s 42 8 = 0
theorem CN.f {A B : Nat → Nat → Prop} (h : CN e s) (f : FR A B s s') (h31 : ∀ k, ¬ A 31 k) (h44 : ∀ k, ¬ B 44 k) : CN e s' := by
  obtain ⟨a, b, c, d⟩ := h
  exact ⟨(f.2.1 _ _ (h31 0)).trans a, (f.2.1 _ _ (h31 1)).trans b, fun i hi => (f.2.2 _ _ (h44 i)).trans (c i hi), fun i hi => (f.2.2 _ _ (h44 _)).trans (d i hi)⟩
theorem fr_cA (f : FR cA cB s s') (c : Nat) : FR (cE c) cB s s' := f.mo (fun a k h => Or.inl ⟨h.1, Or.inl h.2⟩) (fun _ _ h => h)
theorem fr_le {c c' : Nat} (f : FR (cE c') cB s s') (h : c ≤ c') : FR (cE c) cB s s' := f.mo (fun a k h9 => h9.elim Or.inl (fun q => Or.inr ⟨q.1, Nat.le_trans h q.2⟩)) (fun _ _ h => h)
theorem CTx.ee (h : CTx T n s) (f : FR (cE c) cB s s') : CTx T n s' := h.f f (by unfold cE; omega) (fun k => by unfold cE; omega) (fun k => by unfold cE; omega)
theorem CN.ee (h : CN e s) (f : FR (cE c) cB s s') : CN e s' := h.f f (fun k => by unfold cE; omega) (fun k => by unfold cB; omega)
theorem ce_take (h : CE T n e c τ s) (ht : TG T n τ) : ∃ s', f_Rd_take s = some ((), s') ∧ FR cA cB s s' ∧ CE T n e c (tkn T n τ.en) s' := by
  obtain ⟨p, ht⟩ := ht
  obtain ⟨s1, e1, f1, k1⟩ := k_take h.1 ht.2.2.1 h.2.2.2.1.1
  exact ⟨s1, e1, f1, h.1.c f1, (f1.r 42 10).trans h.2.1, h.2.2.1.ee (fr_cA f1 0), k1, (f1.2.1 42 9 (by unfold cA; omega)).trans h.2.2.2.2.1, (f1.2.1 42 8 (by unfold cA; omega)).trans h.2.2.2.2.2⟩
theorem ce_k (h : CE T n e c τ s) (ht : TG T n τ) (j : Nat) (hj : j < 2 ^ 31) : mI s 42 4 = nI j ↔ τ.k = j := by
  obtain ⟨p, ht⟩ := ht
  rw [h.2.2.2.1.2.1]
  exact nI_eq (by have := ht.2.2.2.2.2.2.2; omega) hj
theorem ce_wrong (h : CE T n e c τ s) (j : Nat) : ∃ s', f_Rd_wrong (nI j) s = some (0, s') ∧ FR (cE c) cB s s' ∧ mI s' 42 8 = nI (j + 16 * τ.st) := by
  refine ⟨uI s 42 8 (nI (j + 16 * τ.st)), ?_, fr_uI s _ (Or.inl ⟨rfl, Or.inr (Or.inl rfl)⟩), mI_at _ _ _ _⟩
  unfold f_Rd_wrong
  rw [f_ck_of h.1.b, h.2.2.2.1.2.2.1, show (16 : Int32) = nI 16 from rfl, nI_mul, nI_add]
theorem ce_put (h : CE T n e c τ s) (hc : c < 1000) (x : Nat) : ∃ s', f_Rd_put (nI x) s = some ((), s') ∧ FR (cE c) cB s s' ∧ CE T n e (c + 1) τ s' ∧ mI s' 36 c = nI x := by
  have f1 : FR (cE c) cB s (uI (uI s 36 c (nI x)) 42 9 (nI (c + 1))) := (fr_uI s _ (Or.inr ⟨rfl, Nat.le_refl _⟩)).tr (fr_uI _ _ (Or.inl ⟨rfl, Or.inr (Or.inr rfl)⟩))
  obtain ⟨h1, h2, h3, ⟨t1, t2, t3, t4, t5⟩, h5, h6⟩ := h
  have g : ∀ k, k ≠ 9 → mI (uI (uI s 36 c (nI x)) 42 9 (nI (c + 1))) 42 k = mI s 42 k := fun k hk => by rw [mI_ne _ _ (by omega), mI_ne _ _ (by omega)]
  refine ⟨_, ?_, f1, ⟨h1.ee f1, h2, h3.ee f1, ⟨(g 3 (by decide)).trans t1, (g 4 (by decide)).trans t2, (g 5 (by decide)).trans t3, fun q => (g 6 (by decide)).trans (t4 q), t5⟩, mI_at _ _ _ _, (g 8 (by decide)).trans h6⟩, ?_⟩
  · unfold f_Rd_put
    rw [f_ck_of h1.b, h5, if_neg (show ¬ (1000 : Int32) ≤ nI c from nI_ge (b := 1000) hc (by decide)), f_ck_of h2, f_ck_of (vp_in_nI hc (by decide)), nI_clamp (by omega)]
    have : mI (uI s 36 c (nI x)) 42 9 = nI c := by rw [mI_ne _ _ (by omega)]; exact h5
    simp only [this, nI_1]
  · rw [mI_ne _ _ (by omega)]; exact mI_at _ _ _ _
/-- whose a word is -/
theorem k_whoT (h : CE T n e c τ s) (hn : NmOK e) {a : Nat} (ha : a < 2 ^ 63) (h7 : mL s 42 7 = lN a) : ∀ (k i F : Nat), i + k = e.nt → k < F → f_Rd_whoseName_h37 F (nI i) s = some (match fnd (fun i => (e.tn i).1) a k i with
    | some j => nI (4 + j)
    | none => -1, s) := by
  intro k
  induction k with
  | zero =>
    intro i F hi hF
    obtain ⟨F, rfl⟩ : ∃ f, F = f + 1 := ⟨F - 1, by omega⟩
    obtain rfl : i = e.nt := by omega
    show f_Rd_whoseName_b37 _ _ _ = _
    unfold f_Rd_whoseName_b37
    rw [f_ck_of h.1.b, f_ck_of h.2.1, h.2.2.1.2.1, if_pos (nI_le (Nat.le_refl _) (by have := hn.1.2; omega))]
    rfl
  | succ k ih =>
    intro i F hi hF
    obtain ⟨F, rfl⟩ : ∃ f, F = f + 1 := ⟨F - 1, by omega⟩
    have hnt := hn.1.2
    show f_Rd_whoseName_b37 _ _ _ = _
    unfold f_Rd_whoseName_b37 f_Rd_whoseName_b64 fnd
    have e4 : (4 : Int32) + nI i = nI (4 + i) := nI_add 4 i
    rw [f_ck_of h.1.b, f_ck_of h.2.1, h.2.2.1.2.1, if_neg (nI_ge (by omega) (by omega)), e4, f_ck_of (vp_in_nI (by omega) (by decide)), nI_clamp (by omega), h.2.2.1.2.2.2 i (by omega), h7]
    have hw := (wOK_63 (hn.2.2 i (by omega))).1
    by_cases q : (e.tn i).1 = a
    · rw [if_pos ((lN_ne hw ha).mpr q), if_pos q]
    · rw [if_neg (fun g => q ((lN_ne hw ha).mp g)), if_neg q, nI_1]
      exact ih (i + 1) F (by omega) (by omega)
theorem k_whoP (h : CE T n e c τ s) (hn : NmOK e) {a : Nat} (ha : a < 2 ^ 63) (h7 : mL s 42 7 = lN a) : ∀ (k i F : Nat), i + k = e.np → k < F → f_Rd_whoseName_h2 F (nI i) s = (match fnd (fun i => (e.pn i).1) a k i with
    | some j => some (nI j, s)
    | none => f_Rd_whoseName_b35 s) := by
  intro k
  induction k with
  | zero =>
    intro i F hi hF
    obtain ⟨F, rfl⟩ : ∃ f, F = f + 1 := ⟨F - 1, by omega⟩
    obtain rfl : i = e.np := by omega
    show f_Rd_whoseName_b2 _ _ _ = _
    unfold f_Rd_whoseName_b2
    rw [f_ck_of h.1.b, f_ck_of h.2.1, h.2.2.1.1, if_pos (nI_le (Nat.le_refl _) (by have := hn.1.1; omega))]
    rfl
  | succ k ih =>
    intro i F hi hF
    obtain ⟨F, rfl⟩ : ∃ f, F = f + 1 := ⟨F - 1, by omega⟩
    have hnp := hn.1.1
    show f_Rd_whoseName_b2 _ _ _ = _
    unfold f_Rd_whoseName_b2 fnd
    rw [f_ck_of h.1.b, f_ck_of h.2.1, h.2.2.1.1, if_neg (nI_ge (by omega) (by omega)), f_ck_of (vp_in_nI (by omega) (by decide)), nI_clamp (by omega), h.2.2.1.2.2.1 i (by omega), h7]
    have hw := (wOK_63 (hn.2.1 i (by omega))).1
    by_cases q : (e.pn i).1 = a
    · rw [if_pos ((lN_ne hw ha).mpr q), if_pos q]
    · rw [if_neg (fun g => q ((lN_ne hw ha).mp g)), if_neg q, nI_1]
      exact ih (i + 1) F (by omega) (by omega)
theorem k_who (h : CE T n e c τ s) (ht : TG T n τ) (hn : NmOK e) (h2 : τ.k = 2) : f_Rd_whoseName s = some (whI (who e τ.pw), s) := by
  obtain ⟨p, ht⟩ := ht
  have ha := (wOK_63 (ht.2.2.2.2.1 (Or.inl h2)).1).1
  have h7 := h.2.2.2.1.2.2.2.2 h2
  have hnp := hn.1
  unfold f_Rd_whoseName
  rw [show (0 : Int32) = nI 0 from rfl, k_whoP h hn ha h7 e.np 0 zl_fl (by omega) (by show _ < 4096; omega)]
  unfold who
  cases fnd (fun i => (e.pn i).1) τ.pw e.np 0 with
  | some j => rfl
  | none =>
    show f_Rd_whoseName_h37 zl_fl 0 s = _
    rw [show (0 : Int32) = nI 0 from rfl, k_whoT h hn ha h7 e.nt 0 zl_fl (by omega) (by show _ < 4096; omega)]
    cases fnd (fun i => (e.tn i).1) τ.pw e.nt 0 with
    | some j => rfl
    | none => rfl
def lvI (x : Int32) : Int32 := if x = 10 then 0 else if x = 11 then 0 else if x = 42 then 3 else if x = 43 then 2 else if x = 45 then 2 else if x = 60 then 1 else if x = 61 then 1 else -1
theorem k_lev (x : Int32) : f_Rd_levelOf x s = some (lvI x, s) := by
  unfold f_Rd_levelOf lvI
  repeat' split
  all_goals rfl
theorem lvI_l : ∀ k, k < 62 → ∀ l, l < 4 → (lvI (nI k) = nI l ↔ lev k = l) := by decide +kernel
/-- what a sum's reading comes to -/
def kO (T : Nat → Nat) (n : Nat) (e : Nm) (c : Nat) (s : Sg) (R : Rsl) (f : Option (Int32 × Sg)) : Prop := match R with
  | .error z => ∃ s', f = some (0, s') ∧ FR (cE c) cB s s' ∧ mI s' 42 8 = nI z
  | .ok r => ∃ s', f = some (1, s') ∧ FR (cE c) cB s s' ∧ CE T n e (c + r.1.1.length) r.2 s' ∧ HC s' 36 c r.1.1
theorem kO_er {z : Nat} {f : Option (Int32 × Sg)} (h : ∃ s', f = some (0, s') ∧ FR (cE c) cB s s' ∧ mI s' 42 8 = nI z) : kO T n e c s (.error z) f := h
theorem kLp {RJ : Int32 → Int32 → Sg → Option (Int32 × Sg)} {RP : Int32 → Sg → Option (Int32 × Sg)} {J : Tok → Rsl} {l d : Nat} (hl : l < 4)
    (hJ : ∀ τ s c, CE T n e c τ s → TG T n τ → c ≤ τ.st → kO T n e c s (J τ) (RJ (nI (l + 1)) (nI d) s)) (hG : ∀ τ, TG T n τ → pGo T n τ (J τ)) {lim : Nat} (hlim : lim ≤ 1000) {c0 : Nat} {s0 : Sg} {τ0 : Tok} (h0 : c0 ≤ τ0.st) :
    ∀ (cnt x4 F : Nat) (a : Ev) (τ : Tok) (s : Sg), x4 + cnt = lim → cnt < F → FR (cE c0) cB s0 s → CE T n e (c0 + a.1.length) τ s → HC s 36 c0 a.1 → TG T n τ → a.1.length + τ0.st ≤ τ.st → kO T n e c0 s0 (jLp J (tkn T n) l cnt a τ) (f_Rd_readJoined_h40 RJ RP F (nI l) (nI d) (nI lim) (nI x4) s) := by
  intro cnt
  induction cnt with
  | zero =>
    intro x4 F a τ s hx hF f h hc ht hs
    obtain ⟨F, rfl⟩ : ∃ f, F = f + 1 := ⟨F - 1, by omega⟩
    refine ⟨s, ?_, f, h, hc⟩
    show f_Rd_readJoined_b40 _ _ _ _ _ _ _ _ = _
    unfold f_Rd_readJoined_b40
    rw [if_pos (nI_le (by omega) (by omega))]
  | succ cnt ih =>
    intro x4 F a τ s hx hF f h hc ht hs
    obtain ⟨F, rfl⟩ : ∃ f, F = f + 1 := ⟨F - 1, by omega⟩
    have hk61 : τ.k < 62 := by obtain ⟨p, ht⟩ := ht; have := ht.2.2.2.2.2.2.2; omega
    have hn1 := h.1.2.1
    show kO _ _ _ _ _ _ (f_Rd_readJoined_b40 _ _ _ _ _ _ _ _)
    unfold f_Rd_readJoined_b40 jLp
    rw [if_neg (nI_ge (by omega) (by omega)), f_ck_of h.1.b, f_bd_of (k_lev _), h.2.2.2.1.2.1]
    by_cases g : lev τ.k = l
    · rw [if_pos ((lvI_l τ.k hk61 l hl).mpr g), if_pos g, f_ck_of h.1.b]
      have hk0 := lev_k hl g
      obtain ⟨s1, e1, f1, h1⟩ := ce_take h ht
      have htn := ht.nx
      have h3 : τ.st < τ.en := by obtain ⟨p, ht⟩ := ht; exact ht.2.2.2.1 hk0
      have h4 := htn.1
      have hj := hJ (tkn T n τ.en) s1 (c0 + a.1.length) h1 ⟨_, htn⟩ (by omega)
      have hg := hG (tkn T n τ.en) ⟨_, htn⟩
      rw [f_bd_of e1, f_ck_of h1.1.b, nI_1]
      cases hr : J (tkn T n τ.en) with
      | error z =>
        rw [hr] at hj
        obtain ⟨s2, e2, f2, z2⟩ := hj
        refine ⟨s2, ?_, (f.tr (fr_cA f1 c0)).tr (fr_le f2 (by omega)), z2⟩
        rw [f_bd_of e2, if_pos rfl]
      | ok r =>
        rw [hr] at hj hg
        obtain ⟨s2, e2, f2, h2, c2⟩ := hj
        obtain ⟨g1, g2, g3⟩ := hg
        have g4 : r.2.st ≤ n := by obtain ⟨p, g1⟩ := g1; have := g1.2.1; have := g1.2.2.1; omega
        obtain ⟨s3, e3, f3, h5, p3⟩ := ce_put h2 (by omega) (20000 + τ.k)
        have e20 : (20000 : Int32) + nI τ.k = nI (20000 + τ.k) := nI_add 20000 _
        rw [f_bd_of e2, if_neg (show ¬ (1 : Int32) = 0 by decide), f_ck_of h2.1.b, e20, f_bd_of e3, nI_1]
        have el : (eBin τ.k a r.1).1.length = a.1.length + r.1.1.length + 1 := by
          show (a.1 ++ (r.1.1 ++ [20000 + τ.k])).length = _
          rw [List.length_append, List.length_append]
          show a.1.length + (r.1.1.length + 1) = _
          omega
        have ff : FR (cE c0) cB s s3 := ((fr_cA f1 c0).tr (fr_le f2 (by omega))).tr (fr_le f3 (by omega))
        have f13 : FR (cE (c0 + a.1.length)) cB s s3 := ((fr_cA f1 _).tr f2).tr (fr_le f3 (by omega))
        refine ih (x4 + 1) F (eBin τ.k a r.1) r.2 s3 (by omega) (by omega) (f.tr ff) ?_ ?_ g1 (by rw [el]; omega)
        · rw [el, show c0 + (a.1.length + r.1.1.length + 1) = c0 + a.1.length + r.1.1.length + 1 by omega]
          exact h5
        · show HC s3 36 c0 (a.1 ++ (r.1.1 ++ [20000 + τ.k]))
          rw [HC_ap, HC_ap]
          refine ⟨HC_cg (fun k hk => f13.2.1 36 (c0 + k) (by unfold cE; omega)) hc, HC_cg (fun k hk => f3.2.1 36 _ (by unfold cE; omega)) c2, p3, trivial⟩
    · rw [if_neg (fun q => g ((lvI_l τ.k hk61 l hl).mp q)), if_neg g]
      exact ⟨s, rfl, f, h, hc⟩
theorem kE (hn : NmOK e) : ∀ m,
    (∀ l d τ s c, l ≤ 4 → d ≤ 5 → 6 * (5 - d) + (4 - l) + 2 ≤ m → CE T n e c τ s → TG T n τ → c ≤ τ.st → kO T n e c s ((pE (tkn T n) e m).1 l d τ) ((f_Rd_rec m).1 (nI l) (nI d) s)) ∧
    (∀ d τ s c, d ≤ 5 → 6 * (5 - d) + 1 ≤ m → CE T n e c τ s → TG T n τ → c ≤ τ.st → kO T n e c s ((pE (tkn T n) e m).2 d τ) ((f_Rd_rec m).2 (nI d) s)) := by
  intro m
  induction m with
  | zero => exact ⟨fun l d τ s c h1 h2 h3 => absurd h3 (by omega), fun d τ s c h2 h3 => absurd h3 (by omega)⟩
  | succ m ih =>
    constructor
    · intro l d τ s c hl hd hm h ht hc
      show kO T n e c s (pJn _ _ _ _ _ _) (f_Rd_readJoined (f_Rd_rec m).1 (f_Rd_rec m).2 (nI l) (nI d) s)
      unfold f_Rd_readJoined pJn
      by_cases c4 : l < 4
      · rw [if_pos (show nI l < 4 from nI_lt (b := 4) c4 (by decide)), if_pos c4, f_ck_of h.1.b, nI_1]
        have h1 := ih.1 (l + 1) d τ s c (by omega) hd (by omega) h ht hc
        have hg := (pE_G (T := T) (n := n) (e := e) m).1 (l + 1) d τ ht
        cases hr : (pE (tkn T n) e m).1 (l + 1) d τ with
        | error z =>
          rw [hr] at h1
          obtain ⟨s2, e2, f2, z2⟩ := h1
          refine ⟨s2, ?_, f2, z2⟩
          rw [f_bd_of e2, if_pos rfl]
        | ok r =>
          rw [hr] at h1 hg
          obtain ⟨s2, e2, f2, h2, c2⟩ := h1
          rw [f_bd_of e2, if_neg (show ¬ (1 : Int32) = 0 by decide)]
          have hlp := fun lim hlim => kLp (T := T) (n := n) (e := e) (RJ := (f_Rd_rec m).1) (RP := (f_Rd_rec m).2) (J := (pE (tkn T n) e m).1 (l + 1) d) (l := l) (d := d) c4 (fun τ s c a1 a2 a3 => ih.1 (l + 1) d τ s c (by omega) hd (by omega) a1 a2 a3) (fun τ a => (pE_G m).1 (l + 1) d τ a) (lim := lim) hlim (c0 := c) (s0 := s) (τ0 := τ) hc lim 0 zl_fl r.1 r.2 s2 (by omega) (by show lim < 4096; omega) f2 h2 c2 hg.1 hg.2.1
          by_cases c1 : l = 1
          · rw [if_pos (show nI l = 1 by rw [c1]; rfl), if_pos c1]
            exact hlp 1 (by omega)
          · rw [if_neg (show ¬ nI l = 1 from fun q => c1 ((nI_eq (b := 1) (by omega) (by decide)).mp q)), if_neg c1]
            exact hlp 1000 (by omega)
      · rw [if_neg (show ¬ nI l < 4 from nI_nlt (b := 4) (by omega) (by omega)), if_neg c4, f_ck_of h.1.b]
        have h1 := ih.2 d τ s c hd (by omega) h ht hc
        cases hr : (pE (tkn T n) e m).2 d τ with
        | error z =>
          rw [hr] at h1
          obtain ⟨s2, e2, f2, z2⟩ := h1
          refine ⟨s2, ?_, f2, z2⟩
          rw [f_bd_of e2, f_ck_of (by decide)]
        | ok r =>
          rw [hr] at h1
          obtain ⟨s2, e2, f2, h2, c2⟩ := h1
          refine ⟨s2, ?_, f2, h2, c2⟩
          rw [f_bd_of e2, f_ck_of (by decide)]
    · intro d τ s c hd hm h ht hc
      show kO T n e c s (pPart _ _ _ _ _ _) (f_Rd_readPart (f_Rd_rec m).1 (f_Rd_rec m).2 (nI d) s)
      have hn1 := h.1.2.1
      have htn := ht.nx
      have hstn : τ.st ≤ n ∧ (τ.k ≠ 0 → τ.st < n ∧ τ.st < (tkn T n τ.en).st) := by
        obtain ⟨p, ht⟩ := ht
        have a1 := ht.2.1
        have a2 := ht.2.2.1
        have a3 := htn.1
        exact ⟨by omega, fun q => by have := ht.2.2.2.1 q; omega⟩
      have K := fun j hj => ce_k h ht j hj
      have hb := h.1.b
      -- a wrong place
      have hW : ∀ j : Nat, kO T n e c s (.error (j + 16 * τ.st)) (f_bd (f_Rd_wrong (nI j) s) fun r18 s19 => f_ck (narrow FieldType.boolean (.int r18) = .int r18) <| some (r18, s19)) := fun j => by
        obtain ⟨s2, e2, f2, z2⟩ := ce_wrong h j
        refine ⟨s2, ?_, f2, z2⟩
        rw [f_bd_of e2, f_ck_of (by decide)]
      have hP : ∀ (x : Nat) (a : Ev), a.1 = [x] → c < 1000 → kO T n e c s (.ok (a, tkn T n τ.en)) (f_Rd_readPart_b125 (f_Rd_rec m).1 (f_Rd_rec m).2 (nI x) s) := fun x a ha hc9 => by
        obtain ⟨s2, e2, f2, h2, p2⟩ := ce_put h hc9 x
        obtain ⟨s3, e3, f3, h3⟩ := ce_take h2 ht
        refine ⟨s3, ?_, f2.tr (fr_cA f3 c), ?_, ?_⟩
        · unfold f_Rd_readPart_b125
          rw [f_ck_of hb, f_bd_of e2, f_ck_of h2.1.b, f_bd_of e3]
        · rw [ha]; exact h3
        · rw [ha]
          exact ⟨(f3.2.1 36 c (by unfold cA; omega)).trans p2, trivial⟩
      have h5 : nI d < 5 ↔ d < 5 := nI_ltI (b := 5) (by omega) (by decide)
      unfold f_Rd_readPart pPart
      rw [f_ck_of hb]
      by_cases c2 : τ.k = 2
      · rw [if_pos (show mI s 42 4 = 2 from (K 2 (by decide)).mpr c2), if_pos c2, f_bd_of (k_who h ht hn c2)]
        unfold f_Rd_readPart_b16 f_Rd_readPart_b35
        rw [f_ck_of hb, if_pos (show mI s 42 4 = 2 from (K 2 (by decide)).mpr c2)]
        have hst := hstn.2 (by omega)
        cases hw : who e τ.pw with
        | none =>
          rw [show whI none = -1 from rfl, if_pos rfl, f_ck_of hb]
          exact hW 2
        | some i =>
          have hib := who_b hn hw
          have hnp := hn.1
          rw [show whI (some i) = nI i from rfl, if_neg (show ¬ nI i = -1 from fun q => by
            have := nI_pos' (n := i) (by omega)
            rw [q] at this
            exact absurd this (by decide))]
          show kO T n e c s (if i < 4 then (if d < 5 then .ok (eNam i, tkn T n τ.en) else .error (5 + 16 * τ.st)) else .error (2 + 16 * τ.st)) _
          by_cases c4 : i < 4
          · rw [if_pos (show nI i < 4 from nI_lt (b := 4) c4 (by decide)), if_pos c4]
            unfold f_Rd_readPart_b41 f_Rd_readPart_b81 f_Rd_readPart_b107
            rw [f_ck_of hb, if_pos (show mI s 42 4 = 2 from (K 2 (by decide)).mpr c2)]
            by_cases cd : d < 5
            · rw [if_pos (h5.mpr cd), if_pos cd, f_ck_of hb, if_pos (show mI s 42 4 = 2 from (K 2 (by decide)).mpr c2), if_neg (show ¬ mI s 42 4 = 3 from fun q => by have := (K 3 (by decide)).mp q; omega), show (10000 : Int32) + nI i = nI (10000 + i) from nI_add 10000 i]
              exact hP (10000 + i) (eNam i) rfl (by omega)
            · rw [if_neg (fun q => cd (h5.mp q)), if_neg cd, f_ck_of hb]
              exact hW 5
          · rw [if_neg (show ¬ nI i < 4 from nI_nlt (b := 4) (by omega) (by omega)), if_neg c4, f_ck_of hb]
            exact hW 2
      · have n2 : ¬ mI s 42 4 = 2 := fun q => c2 ((K 2 (by decide)).mp q)
        rw [if_neg n2, if_neg c2]
        unfold f_Rd_readPart_b16 f_Rd_readPart_b41 f_Rd_readPart_b81 f_Rd_readPart_b107
        rw [f_ck_of hb, if_neg n2, f_ck_of hb, if_neg n2]
        by_cases c3 : τ.k = 3
        · have y3 : mI s 42 4 = 3 := (K 3 (by decide)).mpr c3
          rw [if_pos y3, if_pos c3]
          have hst := hstn.2 (by omega)
          by_cases cd : d < 5
          · rw [if_pos (h5.mpr cd), if_pos cd, f_ck_of hb, if_neg n2, if_pos y3, f_ck_of hb, if_pos y3, h.2.2.2.1.2.2.2.1 c3]
            exact hP τ.v (eNum τ.v) rfl (by omega)
          · rw [if_neg (fun q => cd (h5.mp q)), if_neg cd, f_ck_of hb]
            exact hW 5
        · have n3 : ¬ mI s 42 4 = 3 := fun q => c3 ((K 3 (by decide)).mp q)
          rw [if_neg n3, if_neg c3]
          by_cases c9 : τ.k = 9
          · have y9 : mI s 42 4 = 9 := (K 9 (by decide)).mpr c9
            rw [if_pos y9, if_pos c9]
            have hst := hstn.2 (by omega)
            by_cases cd : d < 5
            · rw [if_pos (h5.mpr cd), if_pos cd, f_ck_of hb, if_neg n2, if_neg n3]
              obtain ⟨s1, e1, f1, h1⟩ := ce_take h ht
              rw [f_bd_of e1, if_pos y9, f_ck_of h1.1.b, nI_1]
              have h7 := ih.2 (d + 1) (tkn T n τ.en) s1 c (by omega) (by omega) h1 ⟨_, htn⟩ (by omega)
              have hg := (pE_G (T := T) (n := n) (e := e) m).2 (d + 1) (tkn T n τ.en) ⟨_, htn⟩
              cases hr : (pE (tkn T n) e m).2 (d + 1) (tkn T n τ.en) with
              | error z =>
                rw [hr] at h7
                obtain ⟨s2, e2, f2, z2⟩ := h7
                refine ⟨s2, ?_, (fr_cA f1 c).tr f2, z2⟩
                rw [f_bd_of e2, if_pos rfl]
              | ok r =>
                rw [hr] at h7 hg
                obtain ⟨s2, e2, f2, h2, c2'⟩ := h7
                obtain ⟨g1, g2, g3⟩ := hg
                have g4 : r.2.st ≤ n := by obtain ⟨p, g1⟩ := g1; have := g1.2.1; have := g1.2.2.1; omega
                obtain ⟨s3, e3, f3, h3, p3⟩ := ce_put h2 (by omega) 20009
                refine ⟨s3, ?_, ((fr_cA f1 c).tr f2).tr (fr_le f3 (by omega)), ?_, ?_⟩
                · rw [f_bd_of e2, if_neg (show ¬ (1 : Int32) = 0 by decide), f_ck_of h2.1.b]
                  exact (f_bd_of e3).trans rfl
                · show CE T n e (c + (r.1.1 ++ [20009]).length) r.2 s3
                  rw [List.length_append]
                  exact h3
                · show HC s3 36 c (r.1.1 ++ [20009])
                  rw [HC_ap]
                  exact ⟨HC_cg (fun k hk => f3.2.1 36 _ (by unfold cE; omega)) c2', p3, trivial⟩
            · rw [if_neg (fun q => cd (h5.mp q)), if_neg cd, f_ck_of hb]
              exact hW 5
          · have n9 : ¬ mI s 42 4 = 9 := fun q => c9 ((K 9 (by decide)).mp q)
            rw [if_neg n9, if_neg c9]
            by_cases c40 : τ.k = 40
            · have y40 : mI s 42 4 = 40 := (K 40 (by decide)).mpr c40
              rw [if_pos y40, if_pos c40]
              have hst := hstn.2 (by omega)
              by_cases cd : d < 5
              · rw [if_pos (h5.mpr cd), if_pos cd, f_ck_of hb, if_neg n2, if_neg n3]
                obtain ⟨s1, e1, f1, h1⟩ := ce_take h ht
                rw [f_bd_of e1, if_neg n9, f_ck_of h1.1.b, nI_1]
                have h7 := ih.1 0 (d + 1) (tkn T n τ.en) s1 c (by omega) (by omega) (by omega) h1 ⟨_, htn⟩ (by omega)
                have hg := (pE_G (T := T) (n := n) (e := e) m).1 0 (d + 1) (tkn T n τ.en) ⟨_, htn⟩
                cases hr : (pE (tkn T n) e m).1 0 (d + 1) (tkn T n τ.en) with
                | error z =>
                  rw [hr] at h7
                  obtain ⟨s2, e2, f2, z2⟩ := h7
                  refine ⟨s2, ?_, (fr_cA f1 c).tr f2, z2⟩
                  refine (f_bd_of (show (f_Rd_rec m).1 0 (nI (d + 1)) s1 = some (0, s2) from e2)).trans ?_
                  rw [if_pos rfl]
                | ok r =>
                  rw [hr] at h7 hg
                  obtain ⟨s2, e2, f2, h2, c2'⟩ := h7
                  have hcont : kO T n e c s (if r.2.k = 41 then .ok (ePar r.1, tkn T n r.2.en) else .error (1 + 16 * r.2.st)) (f_ck (zl_B s2) (if mI s2 42 4 = 41 then f_bd (f_Rd_take s2) fun r41 s42 => some ((1 : Int32), s42) else f_bd (f_Rd_wrong 1 s2) fun r43 s44 => f_ck (narrow FieldType.boolean (.int r43) = .int r43) <| some (r43, s44))) := by
                    rw [f_ck_of h2.1.b]
                    by_cases c41 : r.2.k = 41
                    · rw [if_pos (show mI s2 42 4 = 41 from (ce_k h2 hg.1 41 (by decide)).mpr c41), if_pos c41]
                      obtain ⟨s3, e3, f3, h3⟩ := ce_take h2 hg.1
                      refine ⟨s3, ?_, ((fr_cA f1 c).tr f2).tr (fr_cA f3 c), h3, HC_cg (fun k hk => f3.2.1 36 _ (by unfold cA; omega)) c2'⟩
                      rw [f_bd_of e3]
                    · rw [if_neg (show ¬ mI s2 42 4 = 41 from fun q => c41 ((ce_k h2 hg.1 41 (by decide)).mp q)), if_neg c41]
                      obtain ⟨s3, e3, f3, z3⟩ := ce_wrong h2 1
                      refine ⟨s3, ?_, ((fr_cA f1 c).tr f2).tr (fr_le f3 (by omega)), z3⟩
                      refine (f_bd_of e3).trans ?_
                      rw [f_ck_of (by decide)]
                  have hx : (f_bd ((f_Rd_rec m).1 0 (nI (d + 1)) s1) fun r36 s37 => if r36 = 0 then some ((0 : Int32), s37) else f_ck (zl_B s37) (if mI s37 42 4 = 41 then f_bd (f_Rd_take s37) fun r41 s42 => some ((1 : Int32), s42) else f_bd (f_Rd_wrong 1 s37) fun r43 s44 => f_ck (narrow FieldType.boolean (.int r43) = .int r43) <| some (r43, s44))) = (f_ck (zl_B s2) (if mI s2 42 4 = 41 then f_bd (f_Rd_take s2) fun r41 s42 => some ((1 : Int32), s42) else f_bd (f_Rd_wrong 1 s2) fun r43 s44 => f_ck (narrow FieldType.boolean (.int r43) = .int r43) <| some (r43, s44))) := by
                    refine (f_bd_of (show (f_Rd_rec m).1 0 (nI (d + 1)) s1 = some (1, s2) from e2)).trans ?_
                    rw [if_neg (show ¬ (1 : Int32) = 0 by decide)]
                  rw [hx]
                  exact hcont
              · rw [if_neg (fun q => cd (h5.mp q)), if_neg cd, f_ck_of hb]
                exact hW 5
            · have n40 : ¬ mI s 42 4 = 40 := fun q => c40 ((K 40 (by decide)).mp q)
              rw [if_neg n40, if_neg c40]
              exact hW 1
end
