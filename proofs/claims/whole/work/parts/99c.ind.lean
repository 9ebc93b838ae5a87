/-! works: what a sum that was read comes to -/
section
variable {T : Nat → Nat} {n : Nat} {e : Nm} {s : Sg}
theorem jLp_ind {J' : Tok → Rsl} {l : Nat} {Jb Q : Ev → Prop} {L : Nat → Ev → Prop} (hJ : ∀ τ r, TG T n τ → J' τ = .ok r → Jb r.1) (hG : ∀ τ, TG T n τ → pGo T n τ (J' τ))
    (hbin : ∀ c k a b, (l = 1 → c = 0) → lev k = l → k ≤ 61 → L (c + 1) a → Jb b → L c (eBin k a b)) (hk : ∀ c a, L c a → Q a) : ∀ (c : Nat) (a : Ev) (τ : Tok) (r : Ev × Tok), (l = 1 → c ≤ 1) → TG T n τ → L c a → jLp J' (tkn T n) l c a τ = .ok r → Q r.1 := by
  intro c
  induction c with
  | zero =>
    intro a τ r h1 ht hL hr
    have hr' : (Except.ok (a, τ) : Rsl) = .ok r := hr
    cases hr'
    exact hk 0 a hL
  | succ c ih =>
    intro a τ r h1 ht hL hr
    unfold jLp at hr
    by_cases g : lev τ.k = l
    · rw [if_pos g] at hr
      have htn := ht.nx
      have hg := hG _ ⟨_, htn⟩
      cases hq : J' (tkn T n τ.en) with
      | error z => rw [hq] at hr; cases hr
      | ok r1 =>
        rw [hq] at hr hg
        have h61 : τ.k ≤ 61 := by obtain ⟨p, ht⟩ := ht; exact ht.2.2.2.2.2.2.2
        exact ih _ _ r (fun q => by have := h1 q; omega) hg.1 (hbin c τ.k a r1.1 (fun q => by have := h1 q; omega) g h61 hL (hJ _ r1 ⟨_, htn⟩ hq)) hr
    · rw [if_neg g] at hr
      cases hr
      exact hk _ a hL
theorem pE_ind {J : Nat → Nat → Ev → Prop} {P : Nat → Ev → Prop} {L : Nat → Nat → Nat → Ev → Prop} (hnm : NmOK e)
    (hnum : ∀ d v, d < 5 → v ≤ 9999 → P d (eNum v)) (hnam : ∀ d p, d < 5 → p < e.np → P d (eNam p))
    (hnot : ∀ d a, d + 1 < 5 → P (d + 1) a → P d (eNot a)) (hpar : ∀ d a, d + 1 < 5 → J 0 (d + 1) a → P d (ePar a))
    (hup : ∀ d a, d < 5 → P d a → J 4 d a) (hL0 : ∀ l d a, l < 4 → d < 5 → J (l + 1) d a → L l d (if l = 1 then 1 else 1000) a)
    (hbin : ∀ l d c k a b, l < 4 → d < 5 → (l = 1 → c = 0) → lev k = l → k ≤ 61 → L l d (c + 1) a → J (l + 1) d b → L l d c (eBin k a b))
    (hL1 : ∀ l d c a, l < 4 → d < 5 → L l d c a → J l d a) :
    ∀ m, (∀ l d τ r, l ≤ 4 → TG T n τ → (pE (tkn T n) e m).1 l d τ = .ok r → d < 5 ∧ J l d r.1) ∧ (∀ d τ r, TG T n τ → (pE (tkn T n) e m).2 d τ = .ok r → d < 5 ∧ P d r.1) := by
  intro m
  induction m with
  | zero => exact ⟨fun l d τ r _ _ h => (by cases h), fun d τ r _ h => (by cases h)⟩
  | succ m ih =>
    constructor
    · intro l d τ r hl ht h
      have h' : pJn (tkn T n) (pE (tkn T n) e m).1 (pE (tkn T n) e m).2 l d τ = .ok r := h
      unfold pJn at h'
      by_cases c4 : l < 4
      · rw [if_pos c4] at h'
        have hg := (pE_G (T := T) (n := n) (e := e) m).1 (l + 1) d τ ht
        cases hq : (pE (tkn T n) e m).1 (l + 1) d τ with
        | error z => rw [hq] at h'; cases h'
        | ok r1 =>
          rw [hq] at h' hg
          obtain ⟨hd, hj⟩ := ih.1 (l + 1) d τ r1 (by omega) ht hq
          refine ⟨hd, jLp_ind (Jb := J (l + 1) d) (L := L l d) (fun τ r a b => (ih.1 (l + 1) d τ r (by omega) a b).2) (fun τ a => (pE_G m).1 (l + 1) d τ a) (fun c k a b q1 q2 q3 => hbin l d c k a b c4 hd q1 q2 q3) (fun c a => hL1 l d c a c4 hd) _ _ _ r (fun q => ?_) hg.1 (hL0 l d r1.1 c4 hd hj) h'⟩
          rw [if_pos q]; exact Nat.le_refl _
      · rw [if_neg c4] at h'
        obtain rfl : l = 4 := by omega
        obtain ⟨hd, hp⟩ := ih.2 d τ r ht h'
        exact ⟨hd, hup d r.1 hd hp⟩
    · intro d τ r ht h
      have h' : pPart (tkn T n) e (pE (tkn T n) e m).1 (pE (tkn T n) e m).2 d τ = .ok r := h
      have htn := ht.nx
      unfold pPart at h'
      by_cases c2 : τ.k = 2
      · rw [if_pos c2] at h'
        cases hw : who e τ.pw with
        | none => rw [hw] at h'; cases h'
        | some i =>
          rw [hw] at h'
          have h'' : (if i < 4 then (if d < 5 then .ok (eNam i, tkn T n τ.en) else .error (5 + 16 * τ.st)) else .error (2 + 16 * τ.st) : Rsl) = .ok r := h'
          by_cases c4 : i < 4
          · rw [if_pos c4] at h''
            by_cases cd : d < 5
            · rw [if_pos cd] at h''
              cases h''
              exact ⟨cd, hnam d i cd (by have := who_b hnm hw; omega)⟩
            · rw [if_neg cd] at h''; cases h''
          · rw [if_neg c4] at h''; cases h''
      · rw [if_neg c2] at h'
        by_cases c3 : τ.k = 3
        · rw [if_pos c3] at h'
          by_cases cd : d < 5
          · rw [if_pos cd] at h'
            cases h'
            refine ⟨cd, hnum d _ cd ?_⟩
            obtain ⟨p, ht⟩ := ht
            exact ht.2.2.2.2.2.1 c3
          · rw [if_neg cd] at h'; cases h'
        · rw [if_neg c3] at h'
          by_cases c9 : τ.k = 9
          · rw [if_pos c9] at h'
            by_cases cd : d < 5
            · rw [if_pos cd] at h'
              cases hq : (pE (tkn T n) e m).2 (d + 1) (tkn T n τ.en) with
              | error z => rw [hq] at h'; cases h'
              | ok r1 =>
                rw [hq] at h'
                obtain ⟨hd, hp⟩ := ih.2 (d + 1) _ r1 ⟨_, htn⟩ hq
                cases h'
                exact ⟨cd, hnot d r1.1 hd hp⟩
            · rw [if_neg cd] at h'; cases h'
          · rw [if_neg c9] at h'
            by_cases c40 : τ.k = 40
            · rw [if_pos c40] at h'
              by_cases cd : d < 5
              · rw [if_pos cd] at h'
                cases hq : (pE (tkn T n) e m).1 0 (d + 1) (tkn T n τ.en) with
                | error z => rw [hq] at h'; cases h'
                | ok r1 =>
                  rw [hq] at h'
                  obtain ⟨hd, hp⟩ := ih.1 0 (d + 1) _ r1 (by omega) ⟨_, htn⟩ hq
                  have h'' : (if r1.2.k = 41 then .ok (ePar r1.1, tkn T n r1.2.en) else .error (1 + 16 * r1.2.st) : Rsl) = .ok r := h'
                  by_cases c41 : r1.2.k = 41
                  · rw [if_pos c41] at h''
                    cases h''
                    exact ⟨cd, hpar d r1.1 hd hp⟩
                  · rw [if_neg c41] at h''; cases h''
              · rw [if_neg cd] at h'; cases h'
            · rw [if_neg c40] at h'; cases h'
theorem lev_cs {k l : Nat} (h : lev k = l) (hl : l < 4) : ((k = 10 ∨ k = 11) ∧ l = 0) ∨ ((k = 60 ∨ k = 61) ∧ l = 1) ∨ ((k = 43 ∨ k = 45) ∧ l = 2) ∨ (k = 42 ∧ l = 3) := by
  unfold lev at h
  repeat' split at h
  all_goals omega
def nd (l d : Nat) : Nat := 4 * (4 - d) + (5 - l)
theorem pE_K (hnm : NmOK e) {m l d : Nat} {τ : Tok} {r : Ev × Tok} (hl : l ≤ 4) (ht : TG T n τ) (h : (pE (tkn T n) e m).1 l d τ = .ok r) : d < 5 ∧ KEv (nd l d) r.1 := by
  refine (pE_ind (T := T) (n := n) (J := fun l d a => l ≤ 4 → KEv (nd l d) a) (P := fun d a => KEv (nd 4 d) a) (L := fun l d _ a => l < 4 → KEv (nd l d) a) hnm (fun d v hd hv => (kev_num hv).mo (by unfold nd; omega)) (fun d p hd hp => (kev_nam (by have := hnm.1.1; omega)).mo (by unfold nd; omega)) (fun d a hd h => kev_not (h.mo (by unfold nd; omega)) (by unfold nd; omega)) (fun d a hd h => (show KEv _ (ePar a) from h (by omega)).mo (by unfold nd; omega)) (fun d a hd h _ => h) (fun l d a hl hd h _ => (h (by omega)).mo (by unfold nd; omega)) (fun l d c k a b hl hd _ hk h61 ha hb _ => ?_) (fun l d c a hl hd h _ => h hl) m).1 l d τ r hl ht h |>.imp id (fun q => q hl)
  refine kev_bin (m' := nd (l + 1) d) (ha hl) (hb (by omega)) (by unfold nd; omega) (by unfold nd; omega) (by omega) ?_
  have := lev_cs hk hl
  omega
theorem pE_M (hnm : NmOK e) {m d : Nat} {τ : Tok} {r : Ev × Tok} (ht : TG T n τ) (h : (pE (tkn T n) e m).1 0 d τ = .ok r) : MJ e.np 0 d r.1 := by
  have h9 := (pE_ind (T := T) (n := n) (J := fun l d a => if l = 4 then MJ4 e.np d a else MJ e.np l d a) (P := fun d a => MP e.np d a) (L := fun l d c a => if l = 1 ∧ c ≠ 0 then MJ e.np 2 d a else MJ e.np l d a) hnm (fun d v hd hv => mp_num hd hv) (fun d p hd hp => mp_nam hd hp (by have := hnm.1.1; omega)) (fun d a hd h => mp_not hd h) (fun d a hd h => mp_par hd h) (fun d a hd h => mj4_of hd h) (fun l d a hl hd h => ?_) (fun l d c k a b hl hd hc hk h61 ha hb => ?_) (fun l d c a hl hd h => ?_) m).1 0 d τ r (by omega) ht h
  · exact h9.2
  · have hc : l = 0 ∨ l = 1 ∨ l = 2 ∨ l = 3 := by omega
    rcases hc with rfl | rfl | rfl | rfl
    · have h' : MJ e.np 1 d a := h
      show MJ e.np 0 d a
      exact mj0_of h'
    · have h' : MJ e.np 2 d a := h
      show MJ e.np 2 d a
      exact h'
    · have h' : MJ e.np 3 d a := h
      show MJ e.np 2 d a
      exact mj2_of h'
    · have h' : MJ4 e.np d a := h
      show MJ e.np 3 d a
      exact mj3_of h'
  · have ha1 : (if l = 1 ∧ c + 1 ≠ 0 then MJ e.np 2 d a else MJ e.np l d a) := ha
    have hb1 : (if l + 1 = 4 then MJ4 e.np d b else MJ e.np (l + 1) d b) := hb
    show (if l = 1 ∧ c ≠ 0 then MJ e.np 2 d (eBin k a b) else MJ e.np l d (eBin k a b))
    rcases lev_cs hk hl with ⟨hk2, rfl⟩ | ⟨hk2, rfl⟩ | ⟨hk2, rfl⟩ | ⟨rfl, rfl⟩
    · rw [if_neg (by omega)] at ha1 hb1 ⊢
      exact mj_bin0 hd hk2 ha1 hb1
    · rw [if_pos (by omega)] at ha1
      rw [if_neg (by omega)] at hb1
      rw [if_neg (by have := hc rfl; omega)]
      exact mj_bin1 hd hk2 ha1 hb1
    · rw [if_neg (by omega)] at ha1 hb1 ⊢
      exact mj_bin2 hd hk2 ha1 hb1
    · rw [if_neg (by omega)] at ha1 ⊢
      rw [if_pos rfl] at hb1
      exact mj_bin3 hd ha1 hb1
  · show if l = 4 then _ else MJ e.np l d a
    rw [if_neg (by omega)]
    by_cases c1 : l = 1 ∧ c ≠ 0
    · have h' : (if l = 1 ∧ c ≠ 0 then MJ e.np 2 d a else MJ e.np l d a) := h
      rw [if_pos c1] at h'
      rw [c1.1]
      exact mj1_of h'
    · have h' : (if l = 1 ∧ c ≠ 0 then MJ e.np 2 d a else MJ e.np l d a) := h
      rw [if_neg c1] at h'
      exact h'
theorem MJ.mo {P P' d l : Nat} {a : Ev} (h : MJ P l d a) (hp : P ≤ P') : MJ P' l d a := fun q x c E F s h0 hw hf => h q x c E F s h0 ⟨hw.1, hw.2.1, fun p hp2 => hw.2.2.1 p (by omega), hw.2.2.2⟩ hf
end
