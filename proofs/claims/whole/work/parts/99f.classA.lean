/-! works: the class reads a text -/
section
variable {s s' s1 s2 : Sg} {T : Nat → Nat} {n c : Nat} {e : Nm} {τ : Tok} {z : Ps}
/-- a fault's number -/
def FE (k : Nat) : Prop := 1 ≤ k ∧ k < 20000
theorem fe_st (hn : n ≤ 1000) (ht : TG T n τ) {j : Nat} (h1 : 1 ≤ j) (h5 : j ≤ 5) : FE (j + 16 * τ.st) := by
  have := ht.st.1
  unfold FE
  omega
theorem jLp_er {J : Tok → Rsl} {l : Nat} (hJ : ∀ τ k, TG T n τ → J τ = .error k → FE k) (hG : ∀ τ, TG T n τ → pGo T n τ (J τ)) : ∀ (c : Nat) (a : Ev) (τ : Tok) (k : Nat), TG T n τ → jLp J (tkn T n) l c a τ = .error k → FE k := by
  intro c
  induction c with
  | zero => intro a τ k ht h; cases h
  | succ c ih =>
    intro a τ k ht h
    unfold jLp at h
    by_cases g : lev τ.k = l
    · rw [if_pos g] at h
      have hg := hG _ ht.tk
      cases hq : J (tkn T n τ.en) with
      | error y =>
        rw [hq] at h
        cases h
        exact hJ _ _ ht.tk hq
      | ok r =>
        rw [hq] at h hg
        exact ih _ _ _ hg.1 h
    · rw [if_neg g] at h; cases h
theorem pE_er (hn : n ≤ 1000) : ∀ m, (∀ l d τ k, l ≤ 4 → d ≤ 5 → 6 * (5 - d) + (4 - l) + 2 ≤ m → TG T n τ → (pE (tkn T n) e m).1 l d τ = .error k → FE k) ∧ (∀ d τ k, d ≤ 5 → 6 * (5 - d) + 1 ≤ m → TG T n τ → (pE (tkn T n) e m).2 d τ = .error k → FE k) := by
  intro m
  induction m with
  | zero => exact ⟨fun l d τ k _ _ h3 => absurd h3 (by omega), fun d τ k _ h3 => absurd h3 (by omega)⟩
  | succ m ih =>
    constructor
    · intro l d τ k hl hd hm ht h
      have h' : pJn (tkn T n) (pE (tkn T n) e m).1 (pE (tkn T n) e m).2 l d τ = .error k := h
      unfold pJn at h'
      by_cases c4 : l < 4
      · rw [if_pos c4] at h'
        have hg := (pE_G (T := T) (n := n) (e := e) m).1 (l + 1) d τ ht
        cases hq : (pE (tkn T n) e m).1 (l + 1) d τ with
        | error y =>
          rw [hq] at h'
          cases h'
          exact ih.1 (l + 1) d τ _ (by omega) hd (by omega) ht hq
        | ok r =>
          rw [hq] at h' hg
          exact jLp_er (fun τ k a b => ih.1 (l + 1) d τ k (by omega) hd (by omega) a b) (fun τ a => (pE_G m).1 (l + 1) d τ a) _ _ _ _ hg.1 h'
      · rw [if_neg c4] at h'
        exact ih.2 d τ k hd (by omega) ht h'
    · intro d τ k hd hm ht h
      have h' : pPart (tkn T n) e (pE (tkn T n) e m).1 (pE (tkn T n) e m).2 d τ = .error k := h
      have f1 := fun j a b => fe_st (j := j) hn ht a b
      unfold pPart at h'
      by_cases c2 : τ.k = 2
      · rw [if_pos c2] at h'
        cases hw : who e τ.pw with
        | none => rw [hw] at h'; cases h'; exact f1 2 (by decide) (by decide)
        | some i =>
          rw [hw] at h'
          have h'' : (if i < 4 then (if d < 5 then .ok (eNam i, tkn T n τ.en) else .error (5 + 16 * τ.st)) else .error (2 + 16 * τ.st) : Rsl) = .error k := h'
          by_cases c4 : i < 4
          · rw [if_pos c4] at h''
            by_cases cd : d < 5
            · rw [if_pos cd] at h''; cases h''
            · rw [if_neg cd] at h''; cases h''; exact f1 5 (by decide) (by decide)
          · rw [if_neg c4] at h''; cases h''; exact f1 2 (by decide) (by decide)
      · rw [if_neg c2] at h'
        by_cases c3 : τ.k = 3
        · rw [if_pos c3] at h'
          by_cases cd : d < 5
          · rw [if_pos cd] at h'; cases h'
          · rw [if_neg cd] at h'; cases h'; exact f1 5 (by decide) (by decide)
        · rw [if_neg c3] at h'
          by_cases c9 : τ.k = 9
          · rw [if_pos c9] at h'
            by_cases cd : d < 5
            · rw [if_pos cd] at h'
              cases hq : (pE (tkn T n) e m).2 (d + 1) (tkn T n τ.en) with
              | error y =>
                rw [hq] at h'
                cases h'
                exact ih.2 (d + 1) _ _ (by omega) (by omega) ht.tk hq
              | ok r => rw [hq] at h'; cases h'
            · rw [if_neg cd] at h'; cases h'; exact f1 5 (by decide) (by decide)
          · rw [if_neg c9] at h'
            by_cases c40 : τ.k = 40
            · rw [if_pos c40] at h'
              by_cases cd : d < 5
              · rw [if_pos cd] at h'
                have hg := (pE_G (T := T) (n := n) (e := e) m).1 0 (d + 1) _ ht.tk
                cases hq : (pE (tkn T n) e m).1 0 (d + 1) (tkn T n τ.en) with
                | error y =>
                  rw [hq] at h'
                  cases h'
                  exact ih.1 0 (d + 1) _ _ (by omega) (by omega) (by omega) ht.tk hq
                | ok r =>
                  rw [hq] at h' hg
                  have h'' : (if r.2.k = 41 then .ok (ePar r.1, tkn T n r.2.en) else .error (1 + 16 * r.2.st) : Rsl) = .error k := h'
                  by_cases c41 : r.2.k = 41
                  · rw [if_pos c41] at h''; cases h''
                  · rw [if_neg c41] at h''; cases h''; exact fe_st hn hg.1 (by decide) (by decide)
              · rw [if_neg cd] at h'; cases h'; exact f1 5 (by decide) (by decide)
            · rw [if_neg c40] at h'; cases h'; exact f1 1 (by decide) (by decide)
theorem pNew_er (hn : n ≤ 1000) (ht : TG T n τ) (h : ¬ pNew e τ = 0) : FE (pNew e τ + 16 * τ.st) := by
  refine fe_st hn ht (by omega) ?_
  unfold pNew
  split
  · split <;> decide
  · decide
theorem pCost_er {np : Nat} (hn : n ≤ 1000) : ∀ (f j : Nat) (c : Nat → Nat) (τ : Tok) (q : Flt), TG T n τ → pCost (tkn T n) np f j c τ = .error q → FE q.1 := by
  intro f
  induction f with
  | zero => intro j c τ q ht h; cases h
  | succ f ih =>
    intro j c τ q ht h
    unfold pCost at h
    by_cases c3 : τ.k = 3
    · rw [if_pos c3] at h
      by_cases cv : τ.v ≤ 999
      · rw [if_pos cv] at h; exact ih _ _ _ _ ht.tk h
      · rw [if_neg cv] at h; cases h; exact fe_st hn ht (by decide) (by decide)
    · rw [if_neg c3] at h; cases h
theorem pNms_er (hn : n ≤ 1000) : ∀ (f w : Nat) (τ : Tok) (k : Nat), TG T n τ → pNms (tkn T n) e f w τ = .error k → FE k := by
  intro f
  induction f with
  | zero => intro w τ k ht h; cases h
  | succ f ih =>
    intro w τ k ht h
    unfold pNms at h
    by_cases c2 : τ.k = 2
    · rw [if_pos c2] at h
      cases hi : who e τ.pw with
      | none => rw [hi] at h; cases h; exact fe_st hn ht (by decide) (by decide)
      | some i =>
        rw [hi] at h
        have h' : (if w / 2 ^ i % 2 = 1 then .error (3 + 16 * τ.st) else pNms (tkn T n) e f (w + 2 ^ i) (tkn T n τ.en) : Except Nat (Nat × Tok)) = .error k := h
        by_cases cb : w / 2 ^ i % 2 = 1
        · rw [if_pos cb] at h'; cases h'; exact fe_st hn ht (by decide) (by decide)
        · rw [if_neg cb] at h'; exact ih _ _ _ ht.tk h'
    · rw [if_neg c2] at h; cases h
theorem pSent_er (hn : n ≤ 1000) {q : Flt} (hg : PG T n z τ) (h : pSent (tkn T n) z τ = .error q) : FE q.1 := by
  obtain ⟨h1, h2, h3, h4, h5, h6, ht⟩ := hg
  have t1 := ht.tk
  have t2 := t1.tk
  unfold pSent at h
  by_cases c4 : τ.k = 4
  · rw [if_pos c4] at h
    unfold pPers at h
    by_cases a1 : z.e.np < 4
    · rw [if_pos a1] at h
      unfold pPers1 at h
      by_cases a2 : pNew z.e (tkn T n τ.en) = 0
      · rw [if_pos a2] at h
        unfold pPers2 at h
        by_cases a3 : (tkn T n (tkn T n τ.en).en).k = 5
        · rw [if_pos a3] at h
          have hgG := pCost_G (np := z.e.np) 3 0 z.cst _ t2.tk rfl h2
          cases hr : pCost (tkn T n) z.e.np 3 0 z.cst (tkn T n (tkn T n (tkn T n τ.en).en).en) with
          | error y => rw [hr] at h; cases h; exact pCost_er hn _ _ _ _ _ t2.tk hr
          | ok r =>
            rw [hr] at h hgG
            have h' : pPersE (tkn T n) z ((tkn T n τ.en).pw, (tkn T n τ.en).hw) r = .error q := h
            unfold pPersE at h'
            by_cases a4 : r.1 = 0
            · rw [if_pos a4] at h'; cases h'; exact fe_st hn hgG.1 (by decide) (by decide)
            · rw [if_neg a4] at h'
              by_cases a5 : r.2.2.k = 59
              · rw [if_pos a5] at h'; cases h'
              · rw [if_neg a5] at h'; cases h'; exact fe_st hn hgG.1 (by decide) (by decide)
        · rw [if_neg a3] at h; cases h; exact fe_st hn t2 (by decide) (by decide)
      · rw [if_neg a2] at h; cases h; exact pNew_er hn t1 a2
    · rw [if_neg a1] at h; cases h; exact fe_st hn ht (by decide) (by decide)
  · rw [if_neg c4] at h
    by_cases c6 : τ.k = 6
    · rw [if_pos c6] at h
      unfold pThin at h
      by_cases a1 : z.e.nt < 3
      · rw [if_pos a1] at h
        unfold pThin1 at h
        by_cases a2 : pNew z.e (tkn T n τ.en) = 0
        · rw [if_pos a2] at h
          unfold pThin2 at h
          by_cases a3 : (tkn T n (tkn T n τ.en).en).k = 59
          · rw [if_pos a3] at h; cases h
          · rw [if_neg a3] at h; cases h; exact fe_st hn t2 (by decide) (by decide)
        · rw [if_neg a2] at h; cases h; exact pNew_er hn t1 a2
      · rw [if_neg a1] at h; cases h; exact fe_st hn ht (by decide) (by decide)
    · rw [if_neg c6] at h
      by_cases c7 : τ.k = 7
      · rw [if_pos c7] at h
        unfold pLine at h
        by_cases a1 : z.ln < 8
        · rw [if_pos a1] at h
          have hgG := (pE_G (T := T) (n := n) (e := z.e) 40).1 0 0 _ t1
          cases hr : (pE (tkn T n) z.e 40).1 0 0 (tkn T n τ.en) with
          | error y => rw [hr] at h; cases h; exact (pE_er hn 40).1 0 0 _ _ (by decide) (by decide) (by decide) t1 hr
          | ok r =>
            rw [hr] at h hgG
            have h' : pLin1 (tkn T n) z r = .error q := h
            unfold pLin1 at h'
            by_cases a2 : r.2.k = 8
            · rw [if_pos a2] at h'
              have t3 := hgG.1.tk
              have hN := pNms_G (T := T) (n := n) h1 1001 0 _ t3 (by decide)
              cases hr2 : pNms (tkn T n) z.e 1001 0 (tkn T n r.2.en) with
              | error y => rw [hr2] at h'; cases h'; exact pNms_er hn _ _ _ _ t3 hr2
              | ok r2 =>
                rw [hr2] at h' hN
                have h'' : pLinE (tkn T n) z r.1 r2 = .error q := h'
                unfold pLinE at h''
                by_cases a4 : r2.1 = 0
                · rw [if_pos a4] at h''; cases h''; exact fe_st hn hN.1 (by decide) (by decide)
                · rw [if_neg a4] at h''
                  by_cases a5 : r2.2.k = 59
                  · rw [if_pos a5] at h''; cases h''
                  · rw [if_neg a5] at h''; cases h''; exact fe_st hn hN.1 (by decide) (by decide)
            · rw [if_neg a2] at h'; cases h'; exact fe_st hn hgG.1 (by decide) (by decide)
        · rw [if_neg a1] at h; cases h; exact fe_st hn ht (by decide) (by decide)
      · rw [if_neg c7] at h; cases h; exact fe_st hn ht (by decide) (by decide)
/-- what all sentences come to -/
theorem pAll_G (hn : n ≤ 1000) : ∀ (f : Nat) (z : Ps) (τ : Tok), n + 1 ≤ f + τ.st → PG T n z τ → match pAll (tkn T n) f z τ with
    | .error q => (∀ k, q.2 k ≤ 999) ∧ FE q.1
    | .ok z' => ∃ τ', PG T n z' τ' := by
  intro f
  induction f with
  | zero => intro z τ hf hg; have := hg.2.2.2.2.2.2.st.1; exact absurd hf (by omega)
  | succ f ih =>
    intro z τ hf hg
    unfold pAll
    by_cases c0 : τ.k = 0
    · rw [if_pos c0]; exact ⟨τ, hg⟩
    · rw [if_neg c0]
      have h1 := pSent_G hg c0
      cases hr : pSent (tkn T n) z τ with
      | error q => rw [hr] at h1; exact ⟨h1, pSent_er hn hg hr⟩
      | ok r =>
        rw [hr] at h1
        exact ih r.1 r.2 (by have := h1.2; omega) h1.1
theorem k_sent (h : CS T n z τ s) (hg : PG T n z τ) (hk : τ.k ≠ 0) : kR T n s (pSent (tkn T n) z τ) (if mI s 42 4 = 4 then f_Rd_readPerson s else if mI s 42 4 = 6 then f_Rd_readThing s else if mI s 42 4 = 7 then f_Rd_readLine s else f_Rd_wrong 1 s) := by
  have ht := hg.2.2.2.2.2.2
  have K := fun j hj => ce_k h.1 ht j hj
  unfold pSent
  by_cases c4 : τ.k = 4
  · rw [if_pos c4, if_pos (show mI s 42 4 = 4 from (K 4 (by decide)).mpr c4)]
    exact k_pers h hg
  · rw [if_neg c4, if_neg (show ¬ mI s 42 4 = 4 from fun q => c4 ((K 4 (by decide)).mp q))]
    by_cases c6 : τ.k = 6
    · rw [if_pos c6, if_pos (show mI s 42 4 = 6 from (K 6 (by decide)).mpr c6)]
      exact k_thin h hg
    · rw [if_neg c6, if_neg (show ¬ mI s 42 4 = 6 from fun q => c6 ((K 6 (by decide)).mp q))]
      by_cases c7 : τ.k = 7
      · rw [if_pos c7, if_pos (show mI s 42 4 = 7 from (K 7 (by decide)).mpr c7)]
        exact k_linR h hg hk
      · rw [if_neg c7, if_neg (show ¬ mI s 42 4 = 7 from fun q => c7 ((K 7 (by decide)).mp q))]
        obtain ⟨s2, e2, f2, z2⟩ := ce_wrong h.1 1
        exact ⟨s2, e2, fr_rE f2, z2, h.2.1.ee f2⟩
def gA (a k : Nat) : Prop := ((a = 31 ∧ k ≤ 2) ∨ (32 ≤ a ∧ a ≤ 36 ∧ ¬ (a = 35 ∧ k = 0))) ∨ a = 42
theorem fr_gR (f : FR rA rB s s') : FR gA rB s s' := f.mo (fun a k h => by unfold rA at h; unfold gA; omega) (fun _ _ h => h)
/-- what is told when a text was read -/
def CZ (z : Ps) (s : Sg) : Prop := CC z.cst s ∧ CO z s ∧ mI s 31 0 = nI z.e.np ∧ mI s 31 1 = nI z.e.nt
theorem k_txt : ∀ (f : Nat) (z : Ps) (τ : Tok) (s : Sg) (x3 F : Nat), n + 1 ≤ f + τ.st → f < F → x3 ≤ τ.st → CS T n z τ s → PG T n z τ → match pAll (tkn T n) f z τ with
    | .error q => ∃ s', f_Rd_read_h35 F 1 (nI x3) s = some (nI q.1, s') ∧ FR gA rB s s' ∧ CC q.2 s' ∧ mI s' 42 2 = 0
    | .ok z' => ∃ s', f_Rd_read_h35 F 1 (nI x3) s = some (0, s') ∧ FR gA rB s s' ∧ CZ z' s' ∧ mI s' 42 2 = 0 := by
  intro f
  induction f with
  | zero => intro z τ s x3 F hf hF hx h hg; have := hg.2.2.2.2.2.2.st.1; exact absurd hf (by omega)
  | succ f ih =>
    intro z τ s x3 F hf hF hx h hg
    obtain ⟨F, rfl⟩ : ∃ g, F = g + 1 := ⟨F - 1, by omega⟩
    have ht := hg.2.2.2.2.2.2
    have hst := ht.st.1
    have hn := h.1.1.2.1
    have hb := h.1.1.b
    have K := fun j hj => ce_k h.1 ht j hj
    have h35 : f_Rd_read_h35 (F + 1) 1 (nI x3) s = f_Rd_read_b35 (f_Rd_read_h35 F) 1 (nI x3) s := rfl
    have hend : ∀ t : Sg, zl_B t → f_Rd_read_b115 t = some (mI t 42 8, uI t 42 2 0) := fun t htb => by
      unfold f_Rd_read_b115
      rw [f_ck_of htb]
      show some (mI (uI t 42 2 0) 42 8, uI t 42 2 0) = _
      rw [mI_ne _ _ (by omega)]
    unfold f_Rd_read_b35 at h35
    rw [if_neg (show ¬ (1000 : Int32) < nI x3 from nI_nlt (a := 1000) (by omega) (by decide)), if_neg (show ¬ (1 : Int32) = 0 by decide), f_ck_of hb] at h35
    unfold pAll
    by_cases c0 : τ.k = 0
    · rw [if_pos c0]
      rw [if_pos (show mI s 42 4 = 0 from (K 0 (by decide)).mpr c0), hend s hb, h.1.2.2.2.2.2] at h35
      have f1 : FR (fun a k => a = 42 ∧ k = 2) NoL s (uI s 42 2 0) := fr_uI s _ ⟨rfl, rfl⟩
      have ne : ∀ a k, ¬ a = 42 → ¬ (fun a k => a = 42 ∧ k = 2) a k := fun a k g q => g q.1
      refine ⟨_, h35, fr_uI s _ (Or.inr rfl), ⟨h.2.1.f f1 (fun k => ne 33 k (by decide)), h.2.2.f f1 (ne 31 2 (by decide)) (fun k => ne 32 k (by decide)) (fun k => ne 34 k (by decide)) (fun k => ne 35 k (by decide)) (fun k _ => ne 36 k (by decide)), ?_, ?_⟩, mI_at _ _ _ _⟩
      · rw [mI_ne _ _ (by omega)]; exact h.1.2.2.1.1
      · rw [mI_ne _ _ (by omega)]; exact h.1.2.2.1.2.1
    · rw [if_neg c0]
      rw [if_neg (show ¬ mI s 42 4 = 0 from fun q => c0 ((K 0 (by decide)).mp q))] at h35
      have hsw : f_Rd_read_h35 (F + 1) 1 (nI x3) s = f_bd (if mI s 42 4 = 4 then f_Rd_readPerson s else if mI s 42 4 = 6 then f_Rd_readThing s else if mI s 42 4 = 7 then f_Rd_readLine s else f_Rd_wrong 1 s) (fun r t => f_Rd_read_h35 F r (nI (x3 + 1)) t) := by
        rw [h35]
        unfold f_Rd_read_b109
        rw [nI_1]
        by_cases q4 : mI s 42 4 = 4
        · rw [if_pos q4, if_pos q4]
        · rw [if_neg q4, if_neg q4]
          by_cases q6 : mI s 42 4 = 6
          · rw [if_pos q6, if_pos q6]
          · rw [if_neg q6, if_neg q6]
            by_cases q7 : mI s 42 4 = 7
            · rw [if_pos q7, if_pos q7]
            · rw [if_neg q7, if_neg q7]
      have h1 := k_sent h hg c0
      have h2 := pSent_G hg c0
      cases hr : pSent (tkn T n) z τ with
      | error q =>
        rw [hr] at h1
        obtain ⟨s2, e2, f2, z2, cc2⟩ := h1
        obtain ⟨F, rfl⟩ : ∃ g, F = g + 1 := ⟨F - 1, by omega⟩
        have b2 := f2.b hb
        refine ⟨uI s2 42 2 0, ?_, (fr_gR f2).tr (fr_uI _ _ (Or.inr rfl)), fun k hk => (mI_ne _ _ (by omega)).trans (cc2 k hk), mI_at _ _ _ _⟩
        rw [hsw, f_bd_of e2]
        show f_Rd_read_b35 (f_Rd_read_h35 F) 0 (nI (x3 + 1)) s2 = _
        unfold f_Rd_read_b35
        by_cases cx : (1000 : Int32) < nI (x3 + 1)
        · rw [if_pos cx, hend s2 b2, z2]
        · rw [if_neg cx, if_pos rfl, hend s2 b2, z2]
      | ok r =>
        rw [hr] at h1 h2
        obtain ⟨s2, e2, f2, cs2⟩ := h1
        have hi := ih r.1 r.2 s2 (x3 + 1) F (by have := h2.2; omega) (by omega) (by have := h2.2; omega) cs2 h2.1
        rw [f_bd_of e2] at hsw
        show match pAll (tkn T n) f r.1 r.2 with
          | .error q => ∃ s', f_Rd_read_h35 (F + 1) 1 (nI x3) s = some (nI q.1, s') ∧ FR gA rB s s' ∧ CC q.2 s' ∧ mI s' 42 2 = 0
          | .ok z' => ∃ s', f_Rd_read_h35 (F + 1) 1 (nI x3) s = some (0, s') ∧ FR gA rB s s' ∧ CZ z' s' ∧ mI s' 42 2 = 0
        cases hq : pAll (tkn T n) f r.1 r.2 with
        | error q =>
          rw [hq] at hi
          obtain ⟨s3, e3, f3, z3⟩ := hi
          exact ⟨s3, hsw.trans e3, (fr_gR f2).tr f3, z3⟩
        | ok z' =>
          rw [hq] at hi
          obtain ⟨s3, e3, f3, z3⟩ := hi
          exact ⟨s3, hsw.trans e3, (fr_gR f2).tr f3, z3⟩
theorem OB_31 (hb : zl_B s) : OB s 31 := by
  have hn := hb.1
  refine ⟨⟨by decide, by omega⟩, fun i hi => ?_, by decide, by decide, by decide, by decide, by decide, by decide, by decide, by decide, by decide, by decide⟩
  obtain rfl | rfl | rfl | rfl | rfl | rfl | rfl | rfl | rfl : i = 0 ∨ i = 1 ∨ i = 2 ∨ i = 3 ∨ i = 4 ∨ i = 5 ∨ i = 6 ∨ i = 7 ∨ i = 8 := by omega
  all_goals exact hb.2 _ _ _ (by decide) (by decide)
theorem gr_42 {f : Nat → Nat → Option Nat} (h : zl_Gr f) : zl_Gr (zl_up f 42 10 (some 31)) := by
  intro a j b ha hj
  by_cases c : a = 42 ∧ j = 10
  · rw [c.1, c.2] at hj
    rw [show zn_FR 42 10 = none by decide] at hj
    cases hj
  · rw [zl_up_ne _ _ c]
    exact h a j b ha hj
def clA (a k : Nat) : Prop := (a = 31 ∧ k < 6) ∨ (37 ≤ a ∧ a ≤ 40)
theorem k_clr_h : ∀ (k x F : Nat) (s : Sg), zl_B s → x + k = 3 → k < F → ∃ s', f_To_clear_h32 F 31 (nI x) s = some ((), s') ∧ FR (fun a j => (37 ≤ a ∧ a ≤ 40) ∧ x ≤ j) NoL s s' ∧ (∀ j, x ≤ j → j < 3 → mI s' 37 j = 0 ∧ mI s' 38 j = 1 ∧ mI s' 39 j = 0 ∧ mI s' 40 j = 0) := by
  intro k
  induction k with
  | zero =>
    intro x F s hb hx hF
    obtain ⟨F, rfl⟩ : ∃ m, F = m + 1 := ⟨F - 1, by omega⟩
    obtain rfl : x = 3 := by omega
    exact ⟨s, rfl, FR.rf _ _ _, fun j h1 h2 => absurd h1 (by omega)⟩
  | succ k ih =>
    intro x F s hb hx hF
    obtain ⟨F, rfl⟩ : ∃ m, F = m + 1 := ⟨F - 1, by omega⟩
    obtain ⟨s2, e2, f2, v2⟩ := ih (x + 1) F (uI (uI (uI (uI s 37 x 0) 38 x 1) 39 x 0) 40 x 0) hb (by omega) (by omega)
    obtain ⟨⟨p1, p2⟩, pr, q0, q1, q2, q3, q4, q5, q6, q7, q8, q9⟩ := OB_31 hb
    have A0 : zl_at s 31 2 := ⟨p1, by omega, q0, by decide⟩
    have iv : vp_in (nI x) 3 := vp_in_nI (by omega) (by decide)
    have z0 : ∀ a, 37 ≤ a → a ≤ 40 → mI s2 a x = mI (uI (uI (uI (uI s 37 x 0) 38 x 1) 39 x 0) 40 x 0) a x := fun a h1 h2 => f2.2.1 a x (fun q => by have q' : (37 ≤ a ∧ a ≤ 40) ∧ x + 1 ≤ x := q; omega)
    have f1 : FR (fun a j => (37 ≤ a ∧ a ≤ 40) ∧ x ≤ j) NoL s (uI (uI (uI (uI s 37 x 0) 38 x 1) 39 x 0) 40 x 0) := (((fr_uI s _ ⟨⟨by omega, by omega⟩, Nat.le_refl _⟩).tr (fr_uI _ _ ⟨⟨by omega, by omega⟩, Nat.le_refl _⟩)).tr (fr_uI _ _ ⟨⟨by omega, by omega⟩, Nat.le_refl _⟩)).tr (fr_uI _ _ ⟨⟨by omega, by omega⟩, Nat.le_refl _⟩)
    refine ⟨s2, ?_, f1.tr (f2.mo (fun a j g => ⟨g.1, by have := g.2; omega⟩) (fun _ _ g => g)), fun j h1 h2 => ?_⟩
    · show f_To_clear_b32 _ _ _ _ = _
      unfold f_To_clear_b32
      rw [if_neg (show ¬ (3 : Int32) ≤ nI x from nI_ge (b := 3) (by omega) (by decide)), nI_clamp (by omega), nI_1]
      refine ck_t A0 (ck_t (pr 5 (by decide)) (ck_t ⟨by omega, (by omega : 31 + 6 < mN s), q6, by decide, by decide⟩ (ck_t iv ?_)))
      refine ck_t A0 (ck_t (pr 6 (by decide)) (ck_t ⟨by omega, (by omega : 31 + 7 < mN s), q7, by decide, by decide⟩ (ck_t iv ?_)))
      refine ck_t A0 (ck_t (pr 7 (by decide)) (ck_t ⟨by omega, (by omega : 31 + 8 < mN s), q8, by decide, by decide⟩ (ck_t iv ?_)))
      refine ck_t A0 (ck_t (pr 8 (by decide)) (ck_t ⟨by omega, (by omega : 31 + 9 < mN s), q9, by decide, by decide⟩ (ck_t iv ?_)))
      exact e2
    · by_cases ej : j = x
      · rw [ej, z0 37 (by decide) (by decide), z0 38 (by decide) (by decide), z0 39 (by decide) (by decide), z0 40 (by decide) (by decide)]
        refine ⟨?_, ?_, ?_, mI_at _ _ _ _⟩
        · rw [mI_ne _ _ (by omega), mI_ne _ _ (by omega), mI_ne _ _ (by omega)]; exact mI_at _ _ _ _
        · rw [mI_ne _ _ (by omega), mI_ne _ _ (by omega)]; exact mI_at _ _ _ _
        · rw [mI_ne _ _ (by omega)]; exact mI_at _ _ _ _
      · exact v2 j (by omega) h2
theorem k_clr (hb : zl_B s) : ∃ s', f_To_clear 31 s = some ((), s') ∧ FR clA NoL s s' ∧ (∀ k, k < 6 → mI s' 31 k = 0) ∧ (∀ j, j < 3 → mI s' 37 j = 0 ∧ mI s' 38 j = 1 ∧ mI s' 39 j = 0 ∧ mI s' 40 j = 0) := by
  obtain ⟨s2, e2, f2, v2⟩ := k_clr_h 3 0 zl_fl (uI (uI (uI (uI (uI (uI s 31 0 0) 31 1 0) 31 2 0) 31 3 0) 31 4 0) 31 5 0) hb (by decide) (zl_fl_lt (by decide))
  obtain ⟨⟨p1, p2⟩, pr, q0, q1, q2, q3, q4, q5, q6, q7, q8, q9⟩ := OB_31 hb
  have A0 : zl_at s 31 2 := ⟨p1, by omega, q0, by decide⟩
  have w : ∀ j, j < 6 → clA 31 j := fun j hj => Or.inl ⟨rfl, hj⟩
  refine ⟨s2, ?_, ((((((fr_uI s _ (w 0 (by decide))).tr (fr_uI _ _ (w 1 (by decide)))).tr (fr_uI _ _ (w 2 (by decide)))).tr (fr_uI _ _ (w 3 (by decide)))).tr (fr_uI _ _ (w 4 (by decide)))).tr (fr_uI _ _ (w 5 (by decide)))).tr (f2.mo (fun a j g => Or.inr g.1) (fun _ _ g => g)), fun k hk => ?_, fun j hj => v2 j (Nat.zero_le _) hj⟩
  · unfold f_To_clear
    exact ck_t A0 (ck_t A0 (ck_t A0 (ck_t A0 (ck_t A0 (ck_t A0 e2)))))
  · have hz : mI s2 31 k = mI (uI (uI (uI (uI (uI (uI s 31 0 0) 31 1 0) 31 2 0) 31 3 0) 31 4 0) 31 5 0) 31 k := f2.2.1 31 k (fun q => by have q' : (37 ≤ 31 ∧ 31 ≤ 40) ∧ 0 ≤ k := q; omega)
    rw [hz]
    obtain rfl | rfl | rfl | rfl | rfl | rfl : k = 0 ∨ k = 1 ∨ k = 2 ∨ k = 3 ∨ k = 4 ∨ k = 5 := by omega
    all_goals
      repeat rw [mI_ne _ _ (by omega)]
      rw [mI_at]
/-- where the reading of a text begins -/
def z00 (cst : Nat → Nat) : Ps := ((0, 0, fun _ => (0, 0), fun _ => (0, 0)), cst, fun _ => 0, 0, fun _ => ([], [], fun _ => 0), fun _ => 0)
theorem z00_G {cst : Nat → Nat} (hc : ∀ k, cst k ≤ 999) (hn : n ≤ 1000) : PG T n (z00 cst) (tkn T n 0) := by
  refine ⟨⟨⟨Nat.zero_le _, Nat.zero_le _⟩, fun i hi => absurd hi (Nat.not_lt_zero _), fun i hi => absurd hi (Nat.not_lt_zero _)⟩, hc, fun p hp => absurd hp (Nat.not_lt_zero _), Nat.zero_le _, fun i hi => absurd hi (Nat.not_lt_zero _), ⟨Nat.zero_le _, Nat.zero_le _⟩, 0, tkn_F (Nat.zero_le _)⟩
/-- what the class's reading leaves alone -/
def GX (s s' : Sg) : Prop := (mN s' = mN s ∧ zl_B s') ∧ (∀ a k, ¬ (31 ≤ a ∧ a ≤ 40) → a ≠ 42 → mI s' a k = mI s a k) ∧ mI s' 35 0 = mI s 35 0 ∧ (∀ a k, ¬ (a = 42 ∧ k = 7) → a ≠ 44 → mL s' a k = mL s a k) ∧ (∀ a k, ¬ (a = 42 ∧ k = 10) → mR s' a k = mR s a k)
theorem k_read {cst : Nat → Nat} (hx : CTx T n s) (hc : CC cst s) (hcst : ∀ k, cst k ≤ 999) (h35 : mI s 35 0 = 0) : match pAll (tkn T n) 1001 (z00 cst) (tkn T n 0) with
    | .error q => ∃ s', f_Rd_read s = some (nI q.1, s') ∧ GX s s' ∧ CC q.2 s' ∧ mI s' 42 2 = 0
    | .ok z' => ∃ s', f_Rd_read s = some (0, s') ∧ GX s s' ∧ CZ z' s' ∧ mI s' 42 2 = 0 ∧ (∀ k, 3 ≤ k → k < 6 → mI s' 31 k = 0) ∧ (∀ j, j < 3 → mI s' 37 j = 0 ∧ mI s' 38 j = 1 ∧ mI s' 39 j = 0 ∧ mI s' 40 j = 0) := by
  have hn := hx.2.1
  have hb := hx.b
  have b1 : zl_B (uR s 42 10 (some 31)) := ⟨hb.1, gr_42 hb.2⟩
  have r1 : mR (uR s 42 10 (some 31)) 42 10 = some 31 := mR_at _ _ _ _
  obtain ⟨s2, e2, f2, v2, w2⟩ := k_clr b1
  have b2 := f2.b b1
  have f3 : FR (fun a k => a = 42 ∧ (k = 3 ∨ k = 8 ∨ k = 9)) NoL s2 (uI (uI (uI s2 42 3 0) 42 9 0) 42 8 0) := ((fr_uI s2 _ ⟨rfl, by omega⟩).tr (fr_uI _ _ ⟨rfl, by omega⟩)).tr (fr_uI _ _ ⟨rfl, by omega⟩)
  have z3 : ∀ a k, ¬ (a = 42 ∧ (k = 3 ∨ k = 8 ∨ k = 9)) → mI (uI (uI (uI s2 42 3 0) 42 9 0) 42 8 0) a k = mI s2 a k := fun a k g => f3.2.1 a k g
  have z2 : ∀ a k, ¬ clA a k → mI s2 a k = mI s a k := fun a k g => f2.2.1 a k g
  have h3 : CTx T n (uI (uI (uI s2 42 3 0) 42 9 0) 42 8 0) := ⟨b2, hn, (z3 42 2 (by omega)).trans ((z2 42 2 (by unfold clA; omega)).trans hx.2.2.1), fun k hk => ⟨(z3 43 k (by omega)).trans ((z2 43 k (by unfold clA; omega)).trans (hx.2.2.2.1 k hk).1), (hx.2.2.2.1 k hk).2⟩, fun k => (z3 3 k (by omega)).trans ((z2 3 k (by unfold clA; omega)).trans (hx.2.2.2.2 k))⟩
  obtain ⟨s4, e4, f4, k4⟩ := k_take (p := 0) h3 (Nat.zero_le _) (by rw [mI_ne _ _ (by omega), mI_ne _ _ (by omega)]; exact mI_at _ _ _ _)
  have z4 : ∀ a k, ¬ cA a k → mI s4 a k = mI (uI (uI (uI s2 42 3 0) 42 9 0) 42 8 0) a k := fun a k g => f4.2.1 a k g
  have z24 : ∀ a k, a ≠ 42 → mI s4 a k = mI s2 a k := fun a k g => (z4 a k (by unfold cA; omega)).trans (z3 a k (by omega))
  have hcs : CS T n (z00 cst) (tkn T n 0) s4 := by
    refine ⟨⟨h3.c f4, ?_, ⟨(z24 31 0 (by decide)).trans (v2 0 (by decide)), (z24 31 1 (by decide)).trans (v2 1 (by decide)), fun i hi => absurd hi (Nat.not_lt_zero _), fun i hi => absurd hi (Nat.not_lt_zero _)⟩, k4, (z4 42 9 (by unfold cA; omega)).trans ?_, (z4 42 8 (by unfold cA; omega)).trans (mI_at _ _ _ _)⟩, fun k hk => ?_, (z24 31 2 (by decide)).trans (v2 2 (by decide)), fun p hp => absurd hp (Nat.not_lt_zero _), fun i hi => absurd hi (Nat.not_lt_zero _), fun i hi => ?_, fun i hi => absurd hi (Nat.not_lt_zero _)⟩
    · exact (f4.r 42 10).trans ((f3.r 42 10).trans ((f2.r 42 10).trans r1))
    · rw [mI_ne _ _ (by omega)]; exact mI_at _ _ _ _
    · exact (z24 33 k (by decide)).trans ((z2 33 k (by unfold clA; omega)).trans (hc k hk))
    · have hi' : i ≤ 0 := hi
      obtain rfl : i = 0 := by omega
      exact (z24 35 0 (by decide)).trans ((z2 35 0 (by unfold clA; omega)).trans h35)
  have hg := z00_G (T := T) hcst hn
  have ha := k_txt (T := T) (n := n) 1001 (z00 cst) (tkn T n 0) s4 0 zl_fl (by omega) (by rw [zl_4096]; omega) (Nat.zero_le _) hcs hg
  have er : f_Rd_read s = f_Rd_read_h35 zl_fl 1 0 s4 := by
    unfold f_Rd_read
    refine ck_t hb (ck_t b1 (ck_t r1 ((f_bd_of e2).trans (ck_t b2 ((f_bd_of e4).trans rfl)))))
  have gx : ∀ s5, FR gA rB s4 s5 → GX s s5 := fun s5 f5 => by
    refine ⟨⟨f5.1.1.trans (f4.1.1.trans (f2.1.1.trans rfl)), f5.b (f4.b h3.b)⟩, fun a k h1 h2 => ?_, ?_, fun a k h1 h2 => ?_, fun a k h1 => ?_⟩
    · exact (f5.2.1 a k (by unfold gA; omega)).trans ((z24 a k h2).trans (z2 a k (by unfold clA; omega)))
    · exact (f5.2.1 35 0 (by unfold gA; omega)).trans ((z24 35 0 (by decide)).trans (z2 35 0 (by unfold clA; omega)))
    · exact (f5.2.2 a k (by unfold rB; omega)).trans ((f4.2.2 a k (by unfold cB; omega)).trans ((f3.2.2 a k (fun q => q)).trans (f2.2.2 a k (fun q => q))))
    · exact (f5.r a k).trans ((f4.r a k).trans ((f3.r a k).trans ((f2.r a k).trans (mR_ne _ _ h1))))
  cases hr : pAll (tkn T n) 1001 (z00 cst) (tkn T n 0) with
  | error q =>
    rw [hr] at ha
    obtain ⟨s5, e5, f5, c5, l5⟩ := ha
    exact ⟨s5, er.trans e5, gx s5 f5, c5, l5⟩
  | ok z' =>
    rw [hr] at ha
    obtain ⟨s5, e5, f5, c5, l5⟩ := ha
    refine ⟨s5, er.trans e5, gx s5 f5, c5, l5, fun k h1 h2 => (f5.2.1 31 k (by unfold gA; omega)).trans ((z24 31 k (by decide)).trans (v2 k h2)), fun j hj => ?_⟩
    have w : ∀ a, 37 ≤ a → a ≤ 40 → mI s5 a j = mI s2 a j := fun a h1 h2 => (f5.2.1 a j (by unfold gA; omega)).trans (z24 a j (by omega))
    rw [w 37 (by decide) (by decide), w 38 (by decide) (by decide), w 39 (by decide) (by decide), w 40 (by decide) (by decide)]
    exact w2 j hj
end
