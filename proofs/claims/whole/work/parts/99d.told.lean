/-! works: a text's sentences, read once for both sides -/
section
abbrev Ps : Type := Nm × (Nat → Nat) × (Nat → Nat) × Nat × (Nat → Ev) × (Nat → Nat)
abbrev Ps.e (z : Ps) : Nm := z.1
abbrev Ps.cst (z : Ps) : Nat → Nat := z.2.1
abbrev Ps.stp (z : Ps) : Nat → Nat := z.2.2.1
abbrev Ps.ln (z : Ps) : Nat := z.2.2.2.1
abbrev Ps.la (z : Ps) : Nat → Ev := z.2.2.2.2.1
abbrev Ps.lw (z : Ps) : Nat → Nat := z.2.2.2.2.2
abbrev Flt : Type := Nat × (Nat → Nat)
abbrev RsP : Type := Except Flt (Ps × Tok)
def pud {α : Type} (f : Nat → α) (k : Nat) (v : α) : Nat → α := fun j => if j = k then v else f j
theorem pud_at {α : Type} (f : Nat → α) (k : Nat) (v : α) : pud f k v k = v := if_pos rfl
theorem pud_ne {α : Type} (f : Nat → α) {k j : Nat} (v : α) (h : j ≠ k) : pud f k v j = f j := if_neg h
def addP (e : Nm) (w : Nat × Nat) : Nm := (e.np + 1, e.nt, pud e.pn e.np w, e.tn)
def addT (e : Nm) (w : Nat × Nat) : Nm := (e.np, e.nt + 1, e.pn, pud e.tn e.nt w)
def pNew (e : Nm) (τ : Tok) : Nat := if τ.k = 2 then (match who e τ.pw with
  | none => 0
  | some _ => 3) else 1
def pCost (tk : Nat → Tok) (np : Nat) : Nat → Nat → (Nat → Nat) → Tok → Except Flt (Nat × (Nat → Nat) × Tok)
  | 0, j, c, τ => .ok (j, c, τ)
  | f + 1, j, c, τ => if τ.k = 3 then (if τ.v ≤ 999 then pCost tk np f (j + 1) (pud c (4 * np + (j + 1)) τ.v) (tk τ.en) else .error (4 + 16 * τ.st, c)) else .ok (j, c, τ)
def pPersE (tk : Nat → Tok) (z : Ps) (w : Nat × Nat) (r : Nat × (Nat → Nat) × Tok) : RsP := if r.1 = 0 then .error (1 + 16 * r.2.2.st, r.2.1) else if r.2.2.k = 59 then .ok ((addP z.e w, r.2.1, pud z.stp z.e.np r.1, z.ln, z.la, z.lw), tk r.2.2.en) else .error (1 + 16 * r.2.2.st, r.2.1)
def pPers2 (tk : Nat → Tok) (z : Ps) (w : Nat × Nat) (τ2 : Tok) : RsP := if τ2.k = 5 then (match pCost tk z.e.np 3 0 z.cst (tk τ2.en) with
  | .error q => .error q
  | .ok r => pPersE tk z w r) else .error (1 + 16 * τ2.st, z.cst)
def pPers1 (tk : Nat → Tok) (z : Ps) (τ1 : Tok) : RsP := if pNew z.e τ1 = 0 then pPers2 tk z (τ1.pw, τ1.hw) (tk τ1.en) else .error (pNew z.e τ1 + 16 * τ1.st, z.cst)
def pPers (tk : Nat → Tok) (z : Ps) (τ : Tok) : RsP := if z.e.np < 4 then pPers1 tk z (tk τ.en) else .error (5 + 16 * τ.st, z.cst)
def pThin2 (tk : Nat → Tok) (z : Ps) (w : Nat × Nat) (τ2 : Tok) : RsP := if τ2.k = 59 then .ok ((addT z.e w, z.cst, z.stp, z.ln, z.la, z.lw), tk τ2.en) else .error (1 + 16 * τ2.st, z.cst)
def pThin1 (tk : Nat → Tok) (z : Ps) (τ1 : Tok) : RsP := if pNew z.e τ1 = 0 then pThin2 tk z (τ1.pw, τ1.hw) (tk τ1.en) else .error (pNew z.e τ1 + 16 * τ1.st, z.cst)
def pThin (tk : Nat → Tok) (z : Ps) (τ : Tok) : RsP := if z.e.nt < 3 then pThin1 tk z (tk τ.en) else .error (5 + 16 * τ.st, z.cst)
def pNms (tk : Nat → Tok) (e : Nm) : Nat → Nat → Tok → Except Nat (Nat × Tok)
  | 0, w, τ => .ok (w, τ)
  | f + 1, w, τ => if τ.k = 2 then (match who e τ.pw with
      | none => .error (2 + 16 * τ.st)
      | some i => if w / 2 ^ i % 2 = 1 then .error (3 + 16 * τ.st) else pNms tk e f (w + 2 ^ i) (tk τ.en)) else .ok (w, τ)
def pLinE (tk : Nat → Tok) (z : Ps) (a : Ev) (r : Nat × Tok) : RsP := if r.1 = 0 then .error (1 + 16 * r.2.st, z.cst) else if r.2.k = 59 then .ok ((z.e, z.cst, z.stp, z.ln + 1, pud z.la z.ln a, pud z.lw z.ln r.1), tk r.2.en) else .error (1 + 16 * r.2.st, z.cst)
def pLin1 (tk : Nat → Tok) (z : Ps) (r : Ev × Tok) : RsP := if r.2.k = 8 then (match pNms tk z.e 1001 0 (tk r.2.en) with
  | .error q => .error (q, z.cst)
  | .ok r2 => pLinE tk z r.1 r2) else .error (1 + 16 * r.2.st, z.cst)
def pLine (tk : Nat → Tok) (z : Ps) (τ : Tok) : RsP := if z.ln < 8 then (match (pE tk z.e 40).1 0 0 (tk τ.en) with
  | .error q => .error (q, z.cst)
  | .ok r => pLin1 tk z r) else .error (5 + 16 * τ.st, z.cst)
def pSent (tk : Nat → Tok) (z : Ps) (τ : Tok) : RsP := if τ.k = 4 then pPers tk z τ else if τ.k = 6 then pThin tk z τ else if τ.k = 7 then pLine tk z τ else .error (1 + 16 * τ.st, z.cst)
def pAll (tk : Nat → Tok) : Nat → Ps → Tok → Except Flt Ps
  | 0, z, _ => .ok z
  | f + 1, z, τ => if τ.k = 0 then .ok z else (match pSent tk z τ with
      | .error q => .error q
      | .ok r => pAll tk f r.1 r.2)
def cps (la : Nat → Ev) : Nat → Nat
  | 0 => 0
  | i + 1 => cps la i + (la i).1.length
def mps (la : Nat → Ev) : Nat → Nat
  | 0 => 0
  | i + 1 => mps la i + (la i).2.1.length
theorem cps_mo {la : Nat → Ev} : ∀ {i j : Nat}, i ≤ j → cps la i ≤ cps la j := by
  intro i j h
  induction j with
  | zero => obtain rfl : i = 0 := by omega
            exact Nat.le_refl _
  | succ j ih =>
    by_cases c : i = j + 1
    · rw [c]; exact Nat.le_refl _
    · have := ih (by omega)
      show cps la i ≤ cps la j + (la j).1.length
      omega
theorem mps_mo {la : Nat → Ev} : ∀ {i j : Nat}, i ≤ j → mps la i ≤ mps la j := by
  intro i j h
  induction j with
  | zero => obtain rfl : i = 0 := by omega
            exact Nat.le_refl _
  | succ j ih =>
    by_cases c : i = j + 1
    · rw [c]; exact Nat.le_refl _
    · have := ih (by omega)
      show mps la i ≤ mps la j + (la j).2.1.length
      omega
theorem cps_up {la : Nat → Ev} {n : Nat} (a : Ev) : ∀ {i : Nat}, i ≤ n → cps (pud la n a) i = cps la i := by
  intro i
  induction i with
  | zero => intro _; rfl
  | succ i ih =>
    intro h
    show cps (pud la n a) i + (pud la n a i).1.length = cps la i + (la i).1.length
    rw [ih (by omega), pud_ne _ _ (by omega)]
theorem mps_up {la : Nat → Ev} {n : Nat} (a : Ev) : ∀ {i : Nat}, i ≤ n → mps (pud la n a) i = mps la i := by
  intro i
  induction i with
  | zero => intro _; rfl
  | succ i ih =>
    intro h
    show mps (pud la n a) i + (pud la n a i).2.1.length = mps la i + (la i).2.1.length
    rw [ih (by omega), pud_ne _ _ (by omega)]
variable {T : Nat → Nat} {n : Nat}
/-- what holds of what was read -/
def PG (T : Nat → Nat) (n : Nat) (z : Ps) (τ : Tok) : Prop := NmOK z.e ∧ (∀ k, z.cst k ≤ 999) ∧ (∀ p, p < z.e.np → 1 ≤ z.stp p ∧ z.stp p ≤ 3) ∧ z.ln ≤ 8 ∧ (∀ i, i < z.ln → KEv 32 (z.la i) ∧ MJ z.e.np 0 0 (z.la i) ∧ z.lw i < 128) ∧ (cps z.la z.ln ≤ τ.st ∧ mps z.la z.ln ≤ τ.st) ∧ TG T n τ
theorem TG.st {τ : Tok} (h : TG T n τ) : τ.st ≤ n ∧ (τ.k ≠ 0 → τ.st < n ∧ τ.st < (tkn T n τ.en).st) ∧ τ.st ≤ (tkn T n τ.en).st := by
  have hn := h.nx.1
  obtain ⟨p, h⟩ := h
  have a1 := h.2.1
  have a2 := h.2.2.1
  refine ⟨by omega, fun q => ?_, by omega⟩
  have := h.2.2.2.1 q
  omega
theorem TG.tk {τ : Tok} (h : TG T n τ) : TG T n (tkn T n τ.en) := ⟨_, h.nx⟩
theorem pNew_0 {e : Nm} {τ : Tok} (h : pNew e τ = 0) : τ.k = 2 ∧ who e τ.pw = none := by
  unfold pNew at h
  by_cases c : τ.k = 2
  · rw [if_pos c] at h
    refine ⟨c, ?_⟩
    cases hw : who e τ.pw with
    | none => rfl
    | some i => rw [hw] at h; cases h
  · rw [if_neg c] at h; cases h
theorem TG.wk {τ : Tok} (h : TG T n τ) (h2 : τ.k = 2) : wOK τ.pw τ.hw := by
  obtain ⟨p, h⟩ := h
  exact (h.2.2.2.2.1 (Or.inl h2)).1
theorem NmOK.p {e : Nm} (h : NmOK e) {w : Nat × Nat} (hw : wOK w.1 w.2) (hp : e.np < 4) : NmOK (addP e w) := by
  refine ⟨⟨hp, h.1.2⟩, fun i hi => ?_, h.2.2⟩
  show wOK (pud e.pn e.np w i).1 (pud e.pn e.np w i).2
  by_cases c : i = e.np
  · rw [c, pud_at]; exact hw
  · rw [pud_ne _ _ c]
    have hi' : i < e.np + 1 := hi
    exact h.2.1 i (by omega)
theorem NmOK.t {e : Nm} (h : NmOK e) {w : Nat × Nat} (hw : wOK w.1 w.2) (hp : e.nt < 3) : NmOK (addT e w) := by
  refine ⟨⟨h.1.1, hp⟩, h.2.1, fun i hi => ?_⟩
  show wOK (pud e.tn e.nt w i).1 (pud e.tn e.nt w i).2
  by_cases c : i = e.nt
  · rw [c, pud_at]; exact hw
  · rw [pud_ne _ _ c]
    have hi' : i < e.nt + 1 := hi
    exact h.2.2 i (by omega)
theorem pCost_G {np : Nat} : ∀ (f j : Nat) (c : Nat → Nat) (τ : Tok), TG T n τ → f + j = 3 → (∀ k, c k ≤ 999) → match pCost (tkn T n) np f j c τ with
    | .error q => ∀ k, q.2 k ≤ 999
    | .ok r => TG T n r.2.2 ∧ τ.st ≤ r.2.2.st ∧ r.1 ≤ 3 ∧ (∀ k, r.2.1 k ≤ 999) := by
  intro f
  induction f with
  | zero => intro j c τ ht hj hc; exact ⟨ht, Nat.le_refl _, by show j ≤ 3; omega, hc⟩
  | succ f ih =>
    intro j c τ ht hj hc
    unfold pCost
    by_cases c3 : τ.k = 3
    · rw [if_pos c3]
      by_cases cv : τ.v ≤ 999
      · rw [if_pos cv]
        have := ih (j + 1) (pud c (4 * np + (j + 1)) τ.v) _ ht.tk (by omega) (fun k => by
          by_cases q : k = 4 * np + (j + 1)
          · rw [q, pud_at]; exact cv
          · rw [pud_ne _ _ q]; exact hc k)
        have hst := ht.st.2.2
        cases hr : pCost (tkn T n) np f (j + 1) (pud c (4 * np + (j + 1)) τ.v) (tkn T n τ.en) with
        | error q => rw [hr] at this; exact this
        | ok r => rw [hr] at this; exact ⟨this.1, by have := this.2.1; omega, this.2.2⟩
      · rw [if_neg cv]; exact hc
    · rw [if_neg c3]; exact ⟨ht, Nat.le_refl _, by show j ≤ 3; omega, hc⟩
theorem bt_ad : ∀ w, w < 128 → ∀ i, i < 7 → ¬ w / 2 ^ i % 2 = 1 → w + 2 ^ i < 128 ∧ w ||| 2 ^ i = w + 2 ^ i := by decide +kernel
theorem pNms_G {e : Nm} (hn : NmOK e) : ∀ (f w : Nat) (τ : Tok), TG T n τ → w < 128 → match pNms (tkn T n) e f w τ with
    | .error _ => True
    | .ok r => TG T n r.2 ∧ τ.st ≤ r.2.st ∧ r.1 < 128 := by
  intro f
  induction f with
  | zero => intro w τ ht hw; exact ⟨ht, Nat.le_refl _, hw⟩
  | succ f ih =>
    intro w τ ht hw
    unfold pNms
    by_cases c2 : τ.k = 2
    · rw [if_pos c2]
      cases hi : who e τ.pw with
      | none => trivial
      | some i =>
        have hib := who_b hn hi
        have hn1 := hn.1
        show match (if w / 2 ^ i % 2 = 1 then .error (3 + 16 * τ.st) else pNms (tkn T n) e f (w + 2 ^ i) (tkn T n τ.en) : Except Nat (Nat × Tok)) with
          | .error _ => True
          | .ok r => TG T n r.2 ∧ τ.st ≤ r.2.st ∧ r.1 < 128
        by_cases cb : w / 2 ^ i % 2 = 1
        · rw [if_pos cb]; trivial
        · rw [if_neg cb]
          have := ih (w + 2 ^ i) _ ht.tk (bt_ad w hw i (by omega) cb).1
          have hst := ht.st.2.2
          cases hr : pNms (tkn T n) e f (w + 2 ^ i) (tkn T n τ.en) with
          | error q => trivial
          | ok r => rw [hr] at this; exact ⟨this.1, by have := this.2.1; omega, this.2.2⟩
    · rw [if_neg c2]; exact ⟨ht, Nat.le_refl _, hw⟩
def pGS (T : Nat → Nat) (n : Nat) (τ : Tok) (R : RsP) : Prop := match R with
  | .error q => ∀ k, q.2 k ≤ 999
  | .ok r => PG T n r.1 r.2 ∧ τ.st < r.2.st
theorem pPers_G {z : Ps} {τ : Tok} (h : PG T n z τ) (hk : τ.k ≠ 0) : pGS T n τ (pPers (tkn T n) z τ) := by
  obtain ⟨h1, h2, h3, h4, h5, h6, h7⟩ := h
  have s0 := (h7.st.2.1 hk).2
  have t1 := h7.tk
  unfold pPers
  by_cases c4 : z.e.np < 4
  · rw [if_pos c4]
    unfold pPers1
    by_cases cn : pNew z.e (tkn T n τ.en) = 0
    · rw [if_pos cn]
      obtain ⟨n2, -⟩ := pNew_0 cn
      have s1 := t1.st.2.2
      have t2 := t1.tk
      unfold pPers2
      by_cases c5 : (tkn T n (tkn T n τ.en).en).k = 5
      · rw [if_pos c5]
        have s2 := t2.st.2.2
        have hg := pCost_G (np := z.e.np) 3 0 z.cst _ t2.tk rfl h2
        cases hr : pCost (tkn T n) z.e.np 3 0 z.cst (tkn T n (tkn T n (tkn T n τ.en).en).en) with
        | error q => rw [hr] at hg; exact hg
        | ok r =>
          rw [hr] at hg
          obtain ⟨g1, g2, g3, g4⟩ := hg
          show pGS T n τ (pPersE (tkn T n) z _ r)
          unfold pPersE
          by_cases c0 : r.1 = 0
          · rw [if_pos c0]; exact g4
          · rw [if_neg c0]
            by_cases c59 : r.2.2.k = 59
            · rw [if_pos c59]
              have s3 := g1.st.2.2
              refine ⟨⟨h1.p (t1.wk n2) c4, g4, fun p hp => ?_, h4, fun i hi => ?_, ?_, g1.tk⟩, ?_⟩
              · show 1 ≤ pud z.stp z.e.np r.1 p ∧ pud z.stp z.e.np r.1 p ≤ 3
                by_cases q : p = z.e.np
                · rw [q, pud_at]; omega
                · rw [pud_ne _ _ q]
                  have hp' : p < z.e.np + 1 := hp
                  exact h3 p (by omega)
              · obtain ⟨q1, q2, q3⟩ := h5 i hi
                exact ⟨q1, q2.mo (Nat.le_succ _), q3⟩
              · show cps z.la z.ln ≤ (tkn T n r.2.2.en).st ∧ mps z.la z.ln ≤ (tkn T n r.2.2.en).st
                omega
              · show τ.st < (tkn T n r.2.2.en).st
                omega
            · rw [if_neg c59]; exact g4
      · rw [if_neg c5]; exact h2
    · rw [if_neg cn]; exact h2
  · rw [if_neg c4]; exact h2
theorem pThin_G {z : Ps} {τ : Tok} (h : PG T n z τ) (hk : τ.k ≠ 0) : pGS T n τ (pThin (tkn T n) z τ) := by
  obtain ⟨h1, h2, h3, h4, h5, h6, h7⟩ := h
  have s0 := (h7.st.2.1 hk).2
  have t1 := h7.tk
  unfold pThin
  by_cases c4 : z.e.nt < 3
  · rw [if_pos c4]
    unfold pThin1
    by_cases cn : pNew z.e (tkn T n τ.en) = 0
    · rw [if_pos cn]
      obtain ⟨n2, -⟩ := pNew_0 cn
      have s1 := t1.st.2.2
      have t2 := t1.tk
      unfold pThin2
      by_cases c5 : (tkn T n (tkn T n τ.en).en).k = 59
      · rw [if_pos c5]
        have s2 := t2.st.2.2
        refine ⟨⟨h1.t (t1.wk n2) c4, h2, h3, h4, h5, ?_, t2.tk⟩, ?_⟩
        · show cps z.la z.ln ≤ (tkn T n (tkn T n (tkn T n τ.en).en).en).st ∧ mps z.la z.ln ≤ (tkn T n (tkn T n (tkn T n τ.en).en).en).st
          omega
        · show τ.st < (tkn T n (tkn T n (tkn T n τ.en).en).en).st
          omega
      · rw [if_neg c5]; exact h2
    · rw [if_neg cn]; exact h2
  · rw [if_neg c4]; exact h2
theorem pLine_G {z : Ps} {τ : Tok} (h : PG T n z τ) (hk : τ.k ≠ 0) : pGS T n τ (pLine (tkn T n) z τ) := by
  obtain ⟨h1, h2, h3, h4, h5, h6, h7⟩ := h
  have s0 := (h7.st.2.1 hk).2
  have t1 := h7.tk
  unfold pLine
  by_cases c4 : z.ln < 8
  · rw [if_pos c4]
    have hg := (pE_G (T := T) (n := n) (e := z.e) 40).1 0 0 _ t1
    cases hr : (pE (tkn T n) z.e 40).1 0 0 (tkn T n τ.en) with
    | error q => exact h2
    | ok r =>
      rw [hr] at hg
      obtain ⟨g1, g2, g3⟩ := hg
      have hK := (pE_K h1 (by decide) t1 hr).2
      have hM := pE_M h1 t1 hr
      show pGS T n τ (pLin1 (tkn T n) z r)
      unfold pLin1
      by_cases c8 : r.2.k = 8
      · rw [if_pos c8]
        have s1 := g1.st.2.2
        have hg2 := pNms_G h1 1001 0 _ g1.tk (by decide)
        cases hr2 : pNms (tkn T n) z.e 1001 0 (tkn T n r.2.en) with
        | error q => exact h2
        | ok r2 =>
          rw [hr2] at hg2
          obtain ⟨k1, k2, k3⟩ := hg2
          show pGS T n τ (pLinE (tkn T n) z r.1 r2)
          unfold pLinE
          by_cases c0 : r2.1 = 0
          · rw [if_pos c0]; exact h2
          · rw [if_neg c0]
            by_cases c59 : r2.2.k = 59
            · rw [if_pos c59]
              have s3 := k1.st.2.2
              refine ⟨⟨h1, h2, h3, c4, fun i hi => ?_, ?_, k1.tk⟩, ?_⟩
              · show KEv 32 (pud z.la z.ln r.1 i) ∧ MJ z.e.np 0 0 (pud z.la z.ln r.1 i) ∧ pud z.lw z.ln r2.1 i < 128
                by_cases q : i = z.ln
                · rw [q, pud_at, pud_at]
                  exact ⟨hK.mo (by unfold nd; omega), hM, k3⟩
                · rw [pud_ne _ _ q, pud_ne _ _ q]
                  have hi' : i < z.ln + 1 := hi
                  exact h5 i (by omega)
              · show cps (pud z.la z.ln r.1) z.ln + (pud z.la z.ln r.1 z.ln).1.length ≤ (tkn T n r2.2.en).st ∧ mps (pud z.la z.ln r.1) z.ln + (pud z.la z.ln r.1 z.ln).2.1.length ≤ (tkn T n r2.2.en).st
                rw [cps_up _ (Nat.le_refl _), mps_up _ (Nat.le_refl _), pud_at]
                omega
              · show τ.st < (tkn T n r2.2.en).st
                omega
            · rw [if_neg c59]; exact h2
      · rw [if_neg c8]; exact h2
  · rw [if_neg c4]; exact h2
theorem pSent_G {z : Ps} {τ : Tok} (h : PG T n z τ) (hk : τ.k ≠ 0) : pGS T n τ (pSent (tkn T n) z τ) := by
  unfold pSent
  by_cases c4 : τ.k = 4
  · rw [if_pos c4]; exact pPers_G h hk
  · rw [if_neg c4]
    by_cases c6 : τ.k = 6
    · rw [if_pos c6]; exact pThin_G h hk
    · rw [if_neg c6]
      by_cases c7 : τ.k = 7
      · rw [if_pos c7]; exact pLine_G h hk
      · rw [if_neg c7]; exact h.2.1
end
