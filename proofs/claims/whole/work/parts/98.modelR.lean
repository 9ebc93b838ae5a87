/-! works: the model reads a sum, all of it -/
section
variable {s s' s0 s1 s2 : Sg} {T : Nat → Nat} {n p c d d' : Nat} {e : Nm} {τ : Tok}
theorem jLp_L {J : Tok → Rsl} {l : Nat} (hG : ∀ τ, TG T n τ → pGo T n τ (J τ)) (hJ : ∀ τ r, TG T n τ → J τ = .ok r → ∀ l', l + 1 ≤ l' → l' < 4 → l' ≠ 1 → lev r.2.k ≠ l') (hl : l < 4) (hn : n ≤ 1000) :
    ∀ (c : Nat) (a : Ev) (τ : Tok) (r : Ev × Tok), (l ≠ 1 → 1000 ≤ c + τ.st) → TG T n τ → (∀ l', l + 1 ≤ l' → l' < 4 → l' ≠ 1 → lev τ.k ≠ l') → jLp J (tkn T n) l c a τ = .ok r → ∀ l', l ≤ l' → l' < 4 → l' ≠ 1 → lev r.2.k ≠ l' := by
  intro c
  induction c with
  | zero =>
    intro a τ r h1 ht h2 hr l' k1 k2 k3
    have e : r = (a, τ) := by
      have : (Except.ok (a, τ) : Rsl) = .ok r := hr
      cases this; rfl
    rw [e]
    by_cases q : l' = l
    · intro g
      have g2 : lev τ.k = l := by rw [← q]; exact g
      obtain ⟨p, ht⟩ := ht
      have := ht.2.2.2.1 (lev_k hl g2)
      have := ht.2.2.1
      have := h1 (by omega)
      omega
    · exact h2 l' (by omega) k2 k3
  | succ c ih =>
    intro a τ r h1 ht h2 hr l' k1 k2 k3
    unfold jLp at hr
    by_cases g : lev τ.k = l
    · rw [if_pos g] at hr
      have htn := ht.nx
      have hg := hG _ ⟨_, htn⟩
      have hj := fun r1 => hJ (tkn T n τ.en) r1 ⟨_, htn⟩
      cases hq : J (tkn T n τ.en) with
      | error z => rw [hq] at hr; cases hr
      | ok r1 =>
        rw [hq] at hr hg
        obtain ⟨p, ht⟩ := ht
        have a1 := ht.2.2.2.1 (lev_k hl g)
        have a2 := htn.1
        refine ih _ _ r (fun q => ?_) hg.1 (hj r1 hq) hr l' k1 k2 k3
        have := h1 q
        have := hg.2.1
        omega
    · rw [if_neg g] at hr
      have e : r = (a, τ) := by cases hr; rfl
      rw [e]
      by_cases q : l' = l
      · rw [q]; exact g
      · exact h2 l' (by omega) k2 k3
theorem pE_L (hn : n ≤ 1000) : ∀ (m l d : Nat) (τ : Tok) (r : Ev × Tok), TG T n τ → (pE (tkn T n) e m).1 l d τ = .ok r → ∀ l', l ≤ l' → l' < 4 → l' ≠ 1 → lev r.2.k ≠ l' := by
  intro m
  induction m with
  | zero => intro l d τ r ht h; cases h
  | succ m ih =>
    intro l d τ r ht h l' k1 k2 k3
    have h' : pJn (tkn T n) (pE (tkn T n) e m).1 (pE (tkn T n) e m).2 l d τ = .ok r := h
    unfold pJn at h'
    rw [if_pos (by omega)] at h'
    have hg := (pE_G (T := T) (n := n) (e := e) m).1 (l + 1) d τ ht
    cases hq : (pE (tkn T n) e m).1 (l + 1) d τ with
    | error z => rw [hq] at h'; cases h'
    | ok r1 =>
      rw [hq] at h' hg
      refine jLp_L (fun τ a => (pE_G m).1 (l + 1) d τ a) (fun τ r a b => ih (l + 1) d τ r a b) (by omega) hn _ _ _ r (fun q => ?_) hg.1 (ih (l + 1) d τ r1 ht hq) h' l' k1 k2 k3
      rw [if_neg q]
      omega
def mX (l d : Nat) (τ : Tok) (s : Sg) : Prop := l ≤ 1 → (mI s 57 d = 0 ∧ lev τ.k ≠ 1) ∨ mI s 57 d = 1
def dL (l d : Nat) : Nat := if l ≤ 1 then d else d + 1
theorem mLp {J : Tok → Rsl} {l : Nat} (hl : l < 4) (hd : d < 7)
    (hJ : ∀ τ s c F, ME T n e c τ s → TG T n τ → c ≤ τ.st → pdp s d = d → (l + 1 ≤ 1 → mI s 57 d = 0) → n + 2 ≤ F + τ.st → mO T n e d (dL (l + 1) d) c d 1 s (mX (l + 1) d) (J τ) F s) (hG : ∀ τ, TG T n τ → pGo T n τ (J τ)) {c0 : Nat} {s0 : Sg} {τ0 : Tok} (h0 : c0 ≤ τ0.st) (hp0 : pdp s0 d = d) :
    ∀ (cnt F : Nat) (a : Ev) (τ : Tok) (s : Sg), FR (mE d (dL l d) c0) nBx s0 s → ME T n e (c0 + a.2.1.length) τ s → HC s 55 (1000 + c0) a.2.1 → TG T n τ → a.2.1.length + τ0.st ≤ τ.st → n + 2 ≤ F + τ.st → (l = 1 → cnt ≤ 1 ∧ (cnt = 1 → mI s 57 d = 0) ∧ (cnt = 0 → mI s 57 d = 1)) → (l = 0 → mX 1 d τ s) →
      mO T n e d (dL l d) c0 d 0 s0 (mX l d) (jLp J (tkn T n) l cnt a τ) F s := by
  intro cnt
  induction cnt with
  | zero =>
    intro F a τ s f h hc ht hs hF h1 hx
    refine ⟨F, s, hF, rfl, f, h, hc, fun hl1 => ?_⟩
    by_cases q : l = 1
    · exact Or.inr ((h1 q).2.2 rfl)
    · exact hx (by omega) (Nat.le_refl _)
  | succ cnt ih =>
    intro F a τ s f h hc ht hs hF h1 hx
    have hstn : τ.st ≤ n := by obtain ⟨p, ht⟩ := ht; have := ht.2.1; have := ht.2.2.1; omega
    obtain ⟨F, rfl⟩ : ∃ f, F = f + 1 := ⟨F - 1, by omega⟩
    unfold jLp
    by_cases g : lev τ.k = l
    · rw [if_pos g]
      obtain ⟨s1, e1, f1, h2, p1, q0, q1⟩ := m_op h ht hl g (by omega) hd (fun q => (h1 q).2.1 (by have := (h1 q).1; omega)) F
      have htn := ht.nx
      have hlt : τ.st < τ.en := by obtain ⟨p, ht⟩ := ht; exact ht.2.2.2.1 (lev_k hl g)
      have h4 := htn.1
      have f1' : FR (mE d (dL l d) (c0 + a.2.1.length)) nBx s s1 := f1
      have hpd1 : pdp s1 d = d := by
        rw [pdp_cg (s := s0) (fun k hk => ((f.tr (fr_mE f1' (Nat.le_refl _) (Nat.le_refl _) (by omega))).2.1 56 k (by unfold mE; omega)))]
        exact hp0
      have hj := hJ (tkn T n τ.en) s1 (c0 + a.2.1.length + 1) F h2 ⟨_, htn⟩ (by omega) hpd1 (fun q => q0 (by omega)) (by omega)
      have hg := hG (tkn T n τ.en) ⟨_, htn⟩
      have hdl : dL l d ≤ dL (l + 1) d := by unfold dL; split <;> split <;> omega
      cases hr : J (tkn T n τ.en) with
      | error z =>
        rw [hr] at hj
        obtain ⟨s2, e2, f2, z2⟩ := hj
        exact ⟨s2, e1.trans e2, (f.tr (fr_mE f1' (Nat.le_refl _) (Nat.le_refl _) (by omega))).tr (fr_mE f2 (Nat.le_refl _) hdl (by omega)), z2⟩
      | ok r =>
        rw [hr] at hj hg
        obtain ⟨F2, s2, hF2, e2, f2, h5, c2, x2⟩ := hj
        obtain ⟨g1, g2, g3⟩ := hg
        have el : (eBin τ.k a r.1).2.1.length = a.2.1.length + (r.1.2.1.length + 1) := by
          show (a.2.1 ++ (mop τ.k :: r.1.2.1)).length = _
          rw [List.length_append, List.length_cons]
        have fa := (f.tr (fr_mE f1' (Nat.le_refl _) (Nat.le_refl _) (by omega))).tr (fr_mE f2 (Nat.le_refl _) hdl (by omega))
        have hm := ih F2 (eBin τ.k a r.1) r.2 s2 fa (by
          rw [el, show c0 + (a.2.1.length + (r.1.2.1.length + 1)) = c0 + a.2.1.length + 1 + r.1.2.1.length by omega]
          exact h5) (by
          show HC s2 55 (1000 + c0) (a.2.1 ++ (mop τ.k :: r.1.2.1))
          rw [HC_ap]
          refine ⟨HC_cg (fun k hk => ?_) hc, ?_, ?_⟩
          · rw [f2.2.1 55 _ (by unfold mE; omega), f1.2.1 55 _ (by unfold mE; omega)]
          · rw [f2.2.1 55 _ (by unfold mE; omega), show 1000 + c0 + a.2.1.length = 1000 + (c0 + a.2.1.length) by omega]
            exact p1
          · rw [show 1000 + c0 + a.2.1.length + 1 = 1000 + (c0 + a.2.1.length + 1) by omega]
            exact c2) g1 (by rw [el]; omega) hF2 (fun q => by
          obtain ⟨w1, w2, w3⟩ := h1 q
          refine ⟨by omega, fun z => by omega, fun _ => ?_⟩
          rw [f2.2.1 57 d (by unfold mE dL; split <;> omega)]
          exact q1 q) (fun q => by subst q; exact x2)
        show mO T n e d (dL l d) c0 d 0 s0 (mX l d) (jLp J (tkn T n) l cnt (eBin τ.k a r.1) r.2) (F + 1) s
        cases hq : jLp J (tkn T n) l cnt (eBin τ.k a r.1) r.2 with
        | error z =>
          rw [hq] at hm
          obtain ⟨s3, e3, f3, z3⟩ := hm
          refine ⟨s3, (e1.trans e2).trans e3, f3, z3⟩
        | ok r3 =>
          rw [hq] at hm
          obtain ⟨F3, s3, hF3, e3, rest⟩ := hm
          exact ⟨F3, s3, hF3, (e1.trans e2).trans e3, rest⟩
    · rw [if_neg g]
      refine ⟨F + 1, s, hF, rfl, f, h, hc, fun hl1 => ?_⟩
      by_cases q : l = 1
      · exact Or.inl ⟨(h1 q).2.1 (by have := (h1 q).1; omega), by rw [← q]; exact g⟩
      · exact hx (by omega) (Nat.le_refl _)
theorem mEt (hnm : NmOK e) : ∀ m,
    (∀ l d τ s c F, l ≤ 4 → d ≤ 5 → 6 * (5 - d) + (4 - l) + 2 ≤ m → ME T n e c τ s → TG T n τ → c ≤ τ.st → pdp s d = d → (l ≤ 1 → mI s 57 d = 0) → n + 2 ≤ F + τ.st → mO T n e d (dL l d) c d 1 s (mX l d) ((pE (tkn T n) e m).1 l d τ) F s) ∧
    (∀ d τ s c F, d ≤ 5 → 6 * (5 - d) + 1 ≤ m → ME T n e c τ s → TG T n τ → c ≤ τ.st → n + 2 ≤ F + τ.st → mO T n e d (d + 1) c (pdp s d) 1 s (fun _ _ => True) ((pE (tkn T n) e m).2 d τ) F s) := by
  intro m
  induction m with
  | zero => exact ⟨fun l d τ s c F h1 h2 h3 => absurd h3 (by omega), fun d τ s c F h2 h3 => absurd h3 (by omega)⟩
  | succ m ih =>
    constructor
    · intro l d τ s c F hl hd hm h ht hc hp h57 hF
      show mO T n e d (dL l d) c d 1 s (mX l d) (pJn _ _ _ _ _ _) F s
      unfold pJn
      by_cases c4 : l < 4
      · rw [if_pos c4]
        have h1 := ih.1 (l + 1) d τ s c F (by omega) hd (by omega) h ht hc hp (fun q => h57 (by omega)) hF
        have hg := (pE_G (T := T) (n := n) (e := e) m).1 (l + 1) d τ ht
        have hdl : dL l d ≤ dL (l + 1) d := by unfold dL; split <;> split <;> omega
        cases hr : (pE (tkn T n) e m).1 (l + 1) d τ with
        | error z =>
          rw [hr] at h1
          obtain ⟨s2, e2, f2, z2⟩ := h1
          exact ⟨s2, e2, fr_mE f2 (Nat.le_refl _) hdl (Nat.le_refl _), z2⟩
        | ok r =>
          rw [hr] at h1 hg
          obtain ⟨F1, s1, hF1, e1, f1, h2, c1, x1⟩ := h1
          have hm2 := mLp (T := T) (n := n) (e := e) (J := (pE (tkn T n) e m).1 (l + 1) d) (l := l) (d := d) c4 (by omega) (fun τ s c F a1 a2 a3 a4 a5 a6 => ih.1 (l + 1) d τ s c F (by omega) hd (by omega) a1 a2 a3 a4 a5 a6) (fun τ a => (pE_G m).1 (l + 1) d τ a) (c0 := c) (s0 := s) (τ0 := τ) hc hp (if l = 1 then 1 else 1000) F1 r.1 r.2 s1 (fr_mE f1 (Nat.le_refl _) hdl (Nat.le_refl _)) h2 c1 hg.1 hg.2.2 hF1 (fun q => by
            rw [if_pos q]
            refine ⟨Nat.le_refl _, fun _ => ?_, fun z => absurd z (by decide)⟩
            rw [f1.2.1 57 d (by unfold mE dL; split <;> omega)]
            exact h57 (by omega)) (fun q => by subst q; exact x1)
          show mO T n e d (dL l d) c d 1 s (mX l d) (jLp ((pE (tkn T n) e m).1 (l + 1) d) (tkn T n) l (if l = 1 then 1 else 1000) r.1 r.2) F s
          cases hq : jLp ((pE (tkn T n) e m).1 (l + 1) d) (tkn T n) l (if l = 1 then 1 else 1000) r.1 r.2 with
          | error z =>
            rw [hq] at hm2
            obtain ⟨s3, e3, f3, z3⟩ := hm2
            exact ⟨s3, e1.trans e3, f3, z3⟩
          | ok r3 =>
            rw [hq] at hm2
            obtain ⟨F3, s3, hF3, e3, rest⟩ := hm2
            exact ⟨F3, s3, hF3, e1.trans e3, rest⟩
      · rw [if_neg c4]
        have h1 := ih.2 d τ s c F hd (by omega) h ht hc hF
        have ed : dL l d = d + 1 := by unfold dL; rw [if_neg (by omega)]
        rw [ed]
        cases hr : (pE (tkn T n) e m).2 d τ with
        | error z =>
          rw [hr] at h1
          exact h1
        | ok r =>
          rw [hr, hp] at h1
          obtain ⟨F1, s1, hF1, e1, f1, h2, c1, x1⟩ := h1
          exact ⟨F1, s1, hF1, e1, f1, h2, c1, fun q => absurd q (by omega)⟩
    · intro d τ s c F hd hm h ht hc hF
      show mO T n e d (d + 1) c (pdp s d) 1 s (fun _ _ => True) (pPart _ _ _ _ _ _) F s
      have hb := h.1.b
      have hn1 := h.1.2.1
      have htn := ht.nx
      have hstn : τ.st ≤ n ∧ (τ.k ≠ 0 → τ.st < n ∧ τ.st < (tkn T n τ.en).st) := by
        obtain ⟨p, ht⟩ := ht
        have a1 := ht.2.1
        have a2 := ht.2.2.1
        have a3 := htn.1
        exact ⟨by omega, fun q => by have := ht.2.2.2.1 q; omega⟩
      obtain ⟨F, rfl⟩ : ∃ f, F = f + 1 := ⟨F - 1, by omega⟩
      have W9 : f_Mo_isWord 10631 s = some (if τ.k = 9 then 1 else 0, s) := me_word h ht wk_9 (kw := 9) (fun a => kwd_9) (by decide)
      have S40 : f_Mo_isSign 40 s = some (if τ.k = 40 then 1 else 0, s) := me_sign h ht (j := 40) (by decide)
      have hW := fun j => me_failN h d (d + 1) j
      have e5 : (nI d = 5) ↔ d = 5 := nI_eq (b := 5) (by omega) (by decide)
      -- a part that is one token
      have hP : ∀ (x : Nat) (a : Ev), a.2.1 = [x] → c < 1000 → τ.k ≠ 0 → mO T n e d (d + 1) c (pdp s d) 1 s (fun _ _ => True) (.ok (a, tkn T n τ.en)) (F + 1) s ∨ ¬ (f_Mo_reads_h11 (F + 1) (nI d) 1 s = f_Mo_reads_b185 (f_Mo_reads_h11 F) (nI d) (nI x) s) := fun x a ha hc9 hk0 => by
        by_cases he : f_Mo_reads_h11 (F + 1) (nI d) 1 s = f_Mo_reads_b185 (f_Mo_reads_h11 F) (nI d) (nI x) s
        · left
          obtain ⟨s2, e2, f2, h2, p2, g2⟩ := me_puts h hc9 d (d + 1) x
          obtain ⟨s3, e3, f3, h3⟩ := me_next h2 ht
          have hst := hstn.2 hk0
          refine ⟨F, s3, by show n + 2 ≤ F + (tkn T n τ.en).st; omega, ?_, f2.tr (fr_nA f3 _ _ _), ?_, ?_, trivial⟩
          · rw [he]
            unfold f_Mo_reads_b185
            rw [f_ck_of hb, f_bd_of e2, m_pop1 _ h2.1.b 0 d zl_fl (by omega) (by show d < 4096; omega), pdp_cg (s := s) (fun k hk => g2 56 k (by decide) (by decide))]
            unfold f_Mo_reads_b210
            rw [f_ck_of h2.1.b, f_bd_of e3]
          · show ME T n e (c + a.2.1.length) (tkn T n τ.en) s3
            rw [ha]; exact h3
          · show HC s3 55 (1000 + c) a.2.1
            rw [ha]
            exact ⟨(f3.2.1 55 _ (by unfold nAx; omega)).trans p2, trivial⟩
        · exact Or.inr he
      -- a deeper part begins
      have hQ : ∀ (x : Nat) (v : Int32), c < 1000 → τ.k ≠ 0 → d < 5 → ∃ s2 s3, f_Mo_puts (nI x) s = some ((), s2) ∧ zl_B s2 ∧ f_Mo_reads_b155 (f_Mo_reads_h11 F) (nI (d + 1)) 1 (nI (d + 1)) v s2 = f_Mo_reads_h11 F (nI (d + 1)) 1 s3 ∧ FR (mE d (d + 1) c) nBx s s3 ∧ ME T n e (c + 1) (tkn T n τ.en) s3 ∧ mI s3 55 (1000 + c) = nI x ∧ mI s3 56 (d + 1) = v ∧ mI s3 57 (d + 1) = 0 ∧ pdp s3 d = pdp s d := fun x v hc9 hk0 hd5 => by
        obtain ⟨s2, e2, f2, h2, p2, g2⟩ := me_puts h hc9 d (d + 1) x
        have f4 : FR (mE d (d + 1) (c + 1)) nBx s2 (uI (uI s2 56 (d + 1) v) 57 (d + 1) 0) := (fr_uI s2 _ (Or.inr (Or.inr (Or.inl ⟨rfl, Nat.lt_succ_self _⟩)))).tr (fr_uI _ _ (Or.inr (Or.inr (Or.inr ⟨rfl, Nat.le_refl _⟩))))
        have h4 : ME T n e (c + 1) τ (uI (uI s2 56 (d + 1) v) 57 (d + 1) 0) := ⟨h2.1.ee f4, h2.2.1.ee f4, ⟨h2.2.2.1.1, h2.2.2.1.2.1, h2.2.2.1.2.2.1, h2.2.2.1.2.2.2.1, h2.2.2.1.2.2.2.2⟩, h2.2.2.2⟩
        obtain ⟨s3, e3, f3, h3⟩ := me_next h4 ht
        have f9 : FR (mE d (d + 1) c) nBx s s3 := (f2.tr (fr_mE f4 (Nat.le_refl _) (Nat.le_refl _) (by omega))).tr (fr_nA f3 _ _ _)
        refine ⟨s2, s3, e2, h2.1.b, ?_, f9, h3, ?_, ?_, ?_, pdp_cg (fun k hk => f9.2.1 56 k (by unfold mE; omega))⟩
        · unfold f_Mo_reads_b155 f_Mo_reads_b210
          rw [f_ck_of h2.1.b, f_ck_of (vp_in_nI (by omega) (by decide)), nI_clamp (by omega), f_ck_of (vp_in_nI (by omega) (by decide))]
          refine (f_ck_of h2.1.b).trans ?_
          exact (f_bd_of e3).trans rfl
        · rw [f3.2.1 55 _ (by unfold nAx; omega), mI_ne _ _ (by omega), mI_ne _ _ (by omega)]; exact p2
        · rw [f3.2.1 56 _ (by unfold nAx; omega), mI_ne _ _ (by omega)]; exact mI_at _ _ _ _
        · rw [f3.2.1 57 _ (by unfold nAx; omega)]; exact mI_at _ _ _ _
      have h11 : f_Mo_reads_h11 (F + 1) (nI d) 1 s = f_Mo_reads_b11 (f_Mo_reads_h11 F) (nI d) 1 s := rfl
      unfold pPart
      by_cases c2 : τ.k = 2
      · rw [if_pos c2]
        have hst := hstn.2 (by omega)
        have hgo : f_Mo_reads_h11 (F + 1) (nI d) 1 s = (if whI (who e τ.pw) < 0 then f_Mo_reads_b66 s else if whI (who e τ.pw) ≤ 3 then f_Mo_reads_b72 (f_Mo_reads_h11 F) (nI d) 1 1 (whI (who e τ.pw)) 0 0 s else f_Mo_reads_b66 s) := by
          rw [h11]
          unfold f_Mo_reads_b11
          rw [if_neg (show ¬ (1 : Int32) = 0 by decide), f_ck_of hb, f_bd_of (me_name h ht), if_pos c2, if_neg (show ¬ (1 : Int32) = 0 by decide), f_ck_of hb, f_bd_of (me_who h ht hnm c2)]
          unfold f_Mo_reads_b32
          rw [f_ck_of hb, f_bd_of W9, if_neg (show ¬ τ.k = 9 by omega), f_ck_of hb, f_bd_of S40, if_neg (show ¬ τ.k = 40 by omega), if_neg (show ¬ (1 : Int32) = 0 by decide)]
        cases hw : who e τ.pw with
        | none =>
          rw [hw] at hgo
          obtain ⟨s2, e2, f2, z2⟩ := hW 2
          refine ⟨s2, ?_, f2, z2⟩
          rw [hgo, if_pos (show whI none < 0 by decide)]
          unfold f_Mo_reads_b66
          rw [f_ck_of hb]
          exact e2
        | some i =>
          have hib := who_b hnm hw
          have hnp := hnm.1
          rw [hw, show whI (some i) = nI i from rfl, if_neg (nI_pos (by omega))] at hgo
          show mO T n e d (d + 1) c (pdp s d) 1 s (fun _ _ => True) (if i < 4 then (if d < 5 then .ok (eNam i, tkn T n τ.en) else .error (5 + 16 * τ.st)) else .error (2 + 16 * τ.st)) (F + 1) s
          by_cases c4 : i < 4
          · rw [if_pos (show nI i ≤ 3 from nI_le (b := 3) (by omega) (by decide))] at hgo
            rw [if_pos c4]
            unfold f_Mo_reads_b72 f_Mo_reads_b100 f_Mo_reads_b105 at hgo
            rw [if_neg (show ¬ (1 : Int32) = 0 by decide)] at hgo
            by_cases cd : d < 5
            · rw [if_pos cd]
              rw [if_neg (fun q => by have := e5.mp q; omega), if_pos rfl, if_pos rfl, if_neg (show ¬ (1 : Int32) = 0 by decide), show (1 : Int32) + nI i = nI (1 + i) from nI_add 1 i] at hgo
              exact (hP (1 + i) (eNam i) rfl (by omega) (by omega)).resolve_right (fun q => q hgo)
            · rw [if_neg cd]
              rw [if_pos (e5.mpr (by omega)), f_ck_of hb] at hgo
              obtain ⟨s2, e2, f2, z2⟩ := hW 5
              exact ⟨s2, hgo.trans e2, f2, z2⟩
          · rw [if_neg (show ¬ nI i ≤ 3 from nI_ge (a := 3) (by omega) (by omega))] at hgo
            rw [if_neg c4]
            unfold f_Mo_reads_b66 at hgo
            rw [f_ck_of hb] at hgo
            obtain ⟨s2, e2, f2, z2⟩ := hW 2
            exact ⟨s2, hgo.trans e2, f2, z2⟩
      · rw [if_neg c2]
        have hgo : f_Mo_reads_h11 (F + 1) (nI d) 1 s = f_Mo_reads_b72 (f_Mo_reads_h11 F) (nI d) 1 0 (-1) (if τ.k = 9 then 1 else 0) (if τ.k = 40 then 1 else 0) s := by
          rw [h11]
          unfold f_Mo_reads_b11
          rw [if_neg (show ¬ (1 : Int32) = 0 by decide), f_ck_of hb, f_bd_of (me_name h ht), if_neg c2, if_pos rfl]
          unfold f_Mo_reads_b32
          rw [f_ck_of hb, f_bd_of W9, f_ck_of hb, f_bd_of S40, if_pos rfl]
        unfold f_Mo_reads_b72 at hgo
        rw [if_pos rfl] at hgo
        by_cases c3 : τ.k = 3
        · rw [if_pos c3]
          have hst := hstn.2 (by omega)
          rw [if_neg (show ¬ τ.k = 9 by omega), if_pos rfl, if_neg (show ¬ τ.k = 40 by omega), if_pos rfl, f_ck_of hb, if_pos (show mI s 46 6 = 2 from (me_6 h 2 (by decide)).mpr (mkd_2.mpr c3))] at hgo
          unfold f_Mo_reads_b100 f_Mo_reads_b105 at hgo
          by_cases cd : d < 5
          · rw [if_pos cd]
            rw [if_neg (fun q => by have := e5.mp q; omega), if_pos rfl, if_pos rfl, if_pos rfl, f_ck_of hb, h.2.2.1.2.2.2.1 c3, show (100 : Int32) + nI τ.v = nI (100 + τ.v) from nI_add 100 _] at hgo
            exact (hP (100 + τ.v) (eNum τ.v) rfl (by omega) (by omega)).resolve_right (fun q => q hgo)
          · rw [if_neg cd]
            rw [if_pos (e5.mpr (by omega)), f_ck_of hb] at hgo
            obtain ⟨s2, e2, f2, z2⟩ := hW 5
            exact ⟨s2, hgo.trans e2, f2, z2⟩
        · rw [if_neg c3]
          by_cases c9 : τ.k = 9
          · rw [if_pos c9]
            have hst := hstn.2 (by omega)
            rw [if_pos c9, if_neg (show ¬ (1 : Int32) = 0 by decide)] at hgo
            unfold f_Mo_reads_b100 f_Mo_reads_b105 f_Mo_reads_b121 f_Mo_reads_b134 at hgo
            by_cases cd : d < 5
            · rw [if_pos cd]
              obtain ⟨s2, s3, e2, b2, e3, f3, h3, p3, q3, r3, pd3⟩ := hQ 30 1 (by omega) (by omega) cd
              rw [if_neg (fun q => by have := e5.mp q; omega), if_neg (show ¬ (1 : Int32) = 0 by decide), if_neg (show ¬ (1 : Int32) = 0 by decide), f_ck_of hb, f_bd_of (show f_Mo_puts 30 s = some ((), s2) from e2), f_ck_of b2, if_neg (show ¬ (1 : Int32) = 0 by decide), nI_1, e3] at hgo
              have h7 := ih.2 (d + 1) (tkn T n τ.en) s3 (c + 1) F (by omega) (by omega) h3 ⟨_, htn⟩ (by omega) (by omega)
              have epd : pdp s3 (d + 1) = pdp s d := by
                show (if mI s3 56 (d + 1) = 1 then pdp s3 d else d + 1) = _
                rw [if_pos q3, pd3]
              cases hr : (pE (tkn T n) e m).2 (d + 1) (tkn T n τ.en) with
              | error z =>
                rw [hr] at h7
                obtain ⟨s4, e4, f4, z4⟩ := h7
                exact ⟨s4, hgo.trans e4, f3.tr (fr_mE f4 (by omega) (by omega) (by omega)), z4⟩
              | ok r =>
                rw [hr, epd] at h7
                obtain ⟨F4, s4, hF4, e4, f4, h4, c4, -⟩ := h7
                refine ⟨F4, s4, hF4, hgo.trans e4, f3.tr (fr_mE f4 (by omega) (by omega) (by omega)), ?_, ?_, trivial⟩
                · show ME T n e (c + (30 :: r.1.2.1).length) r.2 s4
                  rw [List.length_cons, show c + (r.1.2.1.length + 1) = c + 1 + r.1.2.1.length by omega]
                  exact h4
                · exact ⟨(f4.2.1 55 _ (by unfold mE; omega)).trans p3, c4⟩
            · rw [if_neg cd]
              rw [if_pos (e5.mpr (by omega)), f_ck_of hb] at hgo
              obtain ⟨s2, e2, f2, z2⟩ := hW 5
              exact ⟨s2, hgo.trans e2, f2, z2⟩
          · rw [if_neg c9]
            rw [if_neg c9, if_pos rfl] at hgo
            by_cases c40 : τ.k = 40
            · rw [if_pos c40]
              have hst := hstn.2 (by omega)
              rw [if_pos c40, if_neg (show ¬ (1 : Int32) = 0 by decide)] at hgo
              unfold f_Mo_reads_b100 f_Mo_reads_b105 f_Mo_reads_b121 f_Mo_reads_b134 at hgo
              by_cases cd : d < 5
              · rw [if_pos cd]
                obtain ⟨s2, s3, e2, b2, e3, f3, h3, p3, q3, r3, pd3⟩ := hQ 28 2 (by omega) (by omega) cd
                rw [if_neg (fun q => by have := e5.mp q; omega), if_pos rfl, if_neg (show ¬ (1 : Int32) = 0 by decide), if_pos rfl, f_ck_of hb, f_bd_of (show f_Mo_puts 28 s = some ((), s2) from e2), f_ck_of b2, if_pos rfl, nI_1, e3] at hgo
                have epd : pdp s3 (d + 1) = d + 1 := by
                  show (if mI s3 56 (d + 1) = 1 then pdp s3 d else d + 1) = _
                  rw [if_neg (by rw [q3]; decide)]
                have h7 := ih.1 0 (d + 1) (tkn T n τ.en) s3 (c + 1) F (by omega) (by omega) (by omega) h3 ⟨_, htn⟩ (by omega) epd (fun _ => r3) (by omega)
                have hg := (pE_G (T := T) (n := n) (e := e) m).1 0 (d + 1) (tkn T n τ.en) ⟨_, htn⟩
                have hlv := fun r => pE_L (T := T) (e := e) hn1 m 0 (d + 1) (tkn T n τ.en) r ⟨_, htn⟩
                have ed1 : dL 0 (d + 1) = d + 1 := rfl
                cases hr : (pE (tkn T n) e m).1 0 (d + 1) (tkn T n τ.en) with
                | error z =>
                  rw [hr] at h7
                  obtain ⟨s4, e4, f4, z4⟩ := h7
                  rw [ed1] at f4
                  exact ⟨s4, hgo.trans e4, f3.tr (fr_mE f4 (by omega) (by omega) (by omega)), z4⟩
                | ok r =>
                  have hlr := hlv r hr
                  rw [hr] at h7 hg
                  obtain ⟨F4, s4, hF4, e4, f4, h4, c4, x4⟩ := h7
                  rw [ed1] at f4
                  obtain ⟨g1, g2, g3⟩ := hg
                  have g4 : r.2.st ≤ n := by obtain ⟨p, g1⟩ := g1; have := g1.2.1; have := g1.2.2.1; omega
                  obtain ⟨F4, rfl⟩ : ∃ f, F4 = f + 1 := ⟨F4 - 1, by omega⟩
                  have f34 : FR (mE d (d + 1) c) nBx s s4 := f3.tr (fr_mE f4 (by omega) (by omega) (by omega))
                  have pd4 : pdp s4 d = pdp s d := pdp_cg (fun k hk => f34.2.1 56 k (by unfold mE; omega))
                  show mO T n e d (d + 1) c (pdp s d) 1 s (fun _ _ => True) (if r.2.k = 41 then .ok (ePar r.1, tkn T n r.2.en) else .error (1 + 16 * r.2.st)) (F + 1) s
                  rcases m_end h4 g1 ⟨hlr 0 (by omega) (by omega) (by omega), hlr 2 (by omega) (by omega) (by omega), hlr 3 (by omega) (by omega) (by omega)⟩ (by omega : d + 1 < 7) (fun q => by
                    rcases x4 (by omega) with ⟨_, w⟩ | w
                    · exact absurd q w
                    · rw [w]; decide) (by omega) F4 (d + 1) with ⟨k41, -, s5, e5', f5, h5, p5⟩ | ⟨-, q, -⟩ | ⟨n41, -, s5, e5', f5, z5⟩
                  · have htn2 := g1.nx
                    have hlt2 : r.2.st < r.2.en := by obtain ⟨p, g1⟩ := g1; exact g1.2.2.2.1 (by omega)
                    have h9 := htn2.1
                    rw [if_pos k41]
                    refine ⟨F4, s5, by show n + 2 ≤ F4 + (tkn T n r.2.en).st; omega, ?_, f34.tr (fr_mE f5 (by omega) (by omega) (by omega)), ?_, ?_, trivial⟩
                    · rw [hgo, e4, e5', Nat.add_sub_cancel, pd4]
                    · show ME T n e (c + (28 :: (r.1.2.1 ++ [29])).length) (tkn T n r.2.en) s5
                      rw [List.length_cons, List.length_append]
                      show ME T n e (c + (r.1.2.1.length + 1 + 1)) (tkn T n r.2.en) s5
                      rw [show c + (r.1.2.1.length + 1 + 1) = c + 1 + r.1.2.1.length + 1 by omega]
                      exact h5
                    · show mI s5 55 (1000 + c) = nI 28 ∧ HC s5 55 (1000 + c + 1) (r.1.2.1 ++ [29])
                      rw [HC_ap]
                      refine ⟨?_, HC_cg (fun k hk => ?_) c4, ?_, trivial⟩
                      · rw [f5.2.1 55 _ (by unfold mE; omega), f4.2.1 55 _ (by unfold mE; omega)]; exact p3
                      · rw [show 1000 + c + 1 + k = 1000 + (c + 1) + k by omega, f5.2.1 55 _ (by unfold mE; omega)]
                      · rw [show 1000 + c + 1 + r.1.2.1.length = 1000 + (c + 1 + r.1.2.1.length) by omega]; exact p5
                  · exact absurd q (by omega)
                  · rw [if_neg (fun q => n41 ⟨q, by omega⟩)]
                    exact ⟨s5, (hgo.trans e4).trans e5', f34.tr (fr_mE f5 (by omega) (by omega) (by omega)), z5⟩
              · rw [if_neg cd]
                rw [if_pos (e5.mpr (by omega)), f_ck_of hb] at hgo
                obtain ⟨s2, e2, f2, z2⟩ := hW 5
                exact ⟨s2, hgo.trans e2, f2, z2⟩
            · rw [if_neg c40]
              rw [if_neg c40, if_pos rfl, f_ck_of hb, if_neg (show ¬ mI s 46 6 = 2 from fun q => c3 (mkd_2.mp ((me_6 h 2 (by decide)).mp q)))] at hgo
              unfold f_Mo_reads_b94 at hgo
              rw [f_ck_of hb] at hgo
              obtain ⟨s2, e2, f2, z2⟩ := hW 1
              exact ⟨s2, hgo.trans e2, f2, z2⟩
end
