/-! works: what a text's lines come to, told once for both sides -/
section
/-- names told ahead: people and things, each with its two readings -/
abbrev Nm : Type := Nat × Nat × (Nat → Nat × Nat) × (Nat → Nat × Nat)
abbrev Nm.np (e : Nm) : Nat := e.1
abbrev Nm.nt (e : Nm) : Nat := e.2.1
abbrev Nm.pn (e : Nm) : Nat → Nat × Nat := e.2.2.1
abbrev Nm.tn (e : Nm) : Nat → Nat × Nat := e.2.2.2
def fnd (g : Nat → Nat) (a : Nat) : Nat → Nat → Option Nat
  | 0, _ => none
  | k + 1, i => if g i = a then some i else fnd g a k (i + 1)
theorem fnd_b {g : Nat → Nat} {a : Nat} : ∀ {k i j : Nat}, fnd g a k i = some j → i ≤ j ∧ j < i + k := by
  intro k
  induction k with
  | zero => intro i j h; cases h
  | succ k ih =>
    intro i j h
    unfold fnd at h
    split at h
    · cases h; omega
    · have := ih h; omega
theorem fnd_cg {g g' : Nat → Nat} {a a' : Nat} : ∀ {k i : Nat}, (∀ j, i ≤ j → j < i + k → (g j = a ↔ g' j = a')) → fnd g a k i = fnd g' a' k i := by
  intro k
  induction k with
  | zero => intro i _; rfl
  | succ k ih =>
    intro i h
    unfold fnd
    have h0 := h i (Nat.le_refl _) (by omega)
    by_cases c : g i = a
    · rw [if_pos c, if_pos (h0.mp c)]
    · rw [if_neg c, if_neg (fun q => c (h0.mpr q))]
      exact ih (fun j h1 h2 => h j (by omega) (by omega))
def who (e : Nm) (a : Nat) : Option Nat := match fnd (fun i => (e.pn i).1) a e.np 0 with
  | some i => some i
  | none => (match fnd (fun i => (e.tn i).1) a e.nt 0 with
    | some i => some (4 + i)
    | none => none)
def whI : Option Nat → Int32
  | none => -1
  | some i => nI i
def NmOK (e : Nm) : Prop := (e.np ≤ 4 ∧ e.nt ≤ 3) ∧ (∀ i, i < e.np → wOK (e.pn i).1 (e.pn i).2) ∧ (∀ i, i < e.nt → wOK (e.tn i).1 (e.tn i).2)
theorem who_b {e : Nm} (h : NmOK e) {a i : Nat} (hw : who e a = some i) : i < e.np ∨ (4 ≤ i ∧ i < 4 + e.nt) := by
  unfold who at hw
  cases h1 : fnd (fun i => (e.pn i).1) a e.np 0 with
  | some j =>
    rw [h1] at hw
    cases hw
    exact Or.inl (by have := fnd_b h1; omega)
  | none =>
    rw [h1] at hw
    cases h2 : fnd (fun i => (e.tn i).1) a e.nt 0 with
    | some j =>
      rw [h2] at hw
      cases hw
      exact Or.inr (by have := fnd_b h2; omega)
    | none => rw [h2] at hw; cases hw
/-- a line's sum: the class's code, the model's, what it comes to by pains -/
abbrev Ev : Type := List Nat × List Nat × (Nat → Int32)
abbrev Rsl : Type := Except Nat (Ev × Tok)
def lev (k : Nat) : Nat := if k = 10 then 0 else if k = 11 then 0 else if k = 42 then 3 else if k = 43 then 2 else if k = 45 then 2 else if k = 60 then 1 else if k = 61 then 1 else 9
def mop (k : Nat) : Nat := if k = 43 then 20 else if k = 45 then 21 else if k = 42 then 22 else if k = 60 then 24 else if k = 61 then 25 else if k = 10 then 26 else 27
def jn (k : Nat) (a b : Int32) : Int32 := if k = 10 then (if a = 0 then 0 else if b = 0 then 0 else 1) else if k = 42 then a * b else if k = 43 then a + b else if k = 45 then a - b else if k = 60 then (if b ≤ a then 0 else 1) else if k = 61 then (if a = b then 1 else 0) else (if a = 0 then (if b = 0 then 0 else 1) else 1)
def eBin (k : Nat) (a b : Ev) : Ev := (a.1 ++ (b.1 ++ [20000 + k]), a.2.1 ++ (mop k :: b.2.1), fun q => jn k (a.2.2 q) (b.2.2 q))
def eNot (a : Ev) : Ev := (a.1 ++ [20009], 30 :: a.2.1, fun q => if a.2.2 q = 0 then 1 else 0)
def ePar (a : Ev) : Ev := (a.1, 28 :: (a.2.1 ++ [29]), a.2.2)
def eNum (v : Nat) : Ev := ([v], [100 + v], fun _ => nI v)
def eNam (p : Nat) : Ev := ([10000 + p], [1 + p], fun q => nI (sStep q p))
def jLp (J : Tok → Rsl) (tk : Nat → Tok) (l : Nat) : Nat → Ev → Tok → Rsl
  | 0, a, τ => .ok (a, τ)
  | c + 1, a, τ => if lev τ.k = l then (match J (tk τ.en) with
      | .error z => .error z
      | .ok r => jLp J tk l c (eBin τ.k a r.1) r.2) else .ok (a, τ)
def pPart (tk : Nat → Tok) (e : Nm) (J : Nat → Nat → Tok → Rsl) (P : Nat → Tok → Rsl) (d : Nat) (τ : Tok) : Rsl :=
  if τ.k = 2 then (match who e τ.pw with
    | none => .error (2 + 16 * τ.st)
    | some r => if r < 4 then (if d < 5 then .ok (eNam r, tk τ.en) else .error (5 + 16 * τ.st)) else .error (2 + 16 * τ.st))
  else if τ.k = 3 then (if d < 5 then .ok (eNum τ.v, tk τ.en) else .error (5 + 16 * τ.st))
  else if τ.k = 9 then (if d < 5 then (match P (d + 1) (tk τ.en) with
    | .error z => .error z
    | .ok r => .ok (eNot r.1, r.2)) else .error (5 + 16 * τ.st))
  else if τ.k = 40 then (if d < 5 then (match J 0 (d + 1) (tk τ.en) with
    | .error z => .error z
    | .ok r => if r.2.k = 41 then .ok (ePar r.1, tk r.2.en) else .error (1 + 16 * r.2.st)) else .error (5 + 16 * τ.st))
  else .error (1 + 16 * τ.st)
def pJn (tk : Nat → Tok) (J : Nat → Nat → Tok → Rsl) (P : Nat → Tok → Rsl) (l d : Nat) (τ : Tok) : Rsl :=
  if l < 4 then (match J (l + 1) d τ with
    | .error z => .error z
    | .ok r => jLp (J (l + 1) d) tk l (if l = 1 then 1 else 1000) r.1 r.2) else P d τ
def pE (tk : Nat → Tok) (e : Nm) : Nat → (Nat → Nat → Tok → Rsl) × (Nat → Tok → Rsl)
  | 0 => (fun _ _ _ => .error 0, fun _ _ => .error 0)
  | n + 1 => (fun l d τ => pJn tk (pE tk e n).1 (pE tk e n).2 l d τ, fun d τ => pPart tk e (pE tk e n).1 (pE tk e n).2 d τ)
variable {T : Nat → Nat} {n : Nat} {e : Nm}
def TG (T : Nat → Nat) (n : Nat) (τ : Tok) : Prop := ∃ p, TF T n p τ
theorem TG.nx {τ : Tok} (h : TG T n τ) : TF T n τ.en (tkn T n τ.en) := by
  obtain ⟨p, h⟩ := h
  exact tkn_F h.2.2.1
/-- what a sum that was read leaves behind -/
def pGo (T : Nat → Nat) (n : Nat) (τ : Tok) (R : Rsl) : Prop := match R with
  | .error _ => True
  | .ok r => TG T n r.2 ∧ r.1.1.length + τ.st ≤ r.2.st ∧ r.1.2.1.length + τ.st ≤ r.2.st
theorem lev_k {k l : Nat} (hl : l < 4) (h : lev k = l) : k ≠ 0 := by
  rintro rfl
  unfold lev at h
  simp at h
  omega
theorem jLp_G {J : Tok → Rsl} (hJ : ∀ τ, TG T n τ → pGo T n τ (J τ)) {l : Nat} (hl : l < 4) {τ0 : Tok} : ∀ (c : Nat) (a : Ev) (τ : Tok), TG T n τ → a.1.length + τ0.st ≤ τ.st → a.2.1.length + τ0.st ≤ τ.st → pGo T n τ0 (jLp J (tkn T n) l c a τ) := by
  intro c
  induction c with
  | zero => intro a τ h h1 h2; exact ⟨h, h1, h2⟩
  | succ c ih =>
    intro a τ h h1 h2
    unfold jLp
    by_cases g : lev τ.k = l
    · rw [if_pos g]
      have hn := h.nx
      have hj := hJ (tkn T n τ.en) ⟨_, hn⟩
      have hk := lev_k hl g
      obtain ⟨p, ht⟩ := h
      have h3 := ht.2.2.2.1 hk
      cases hr : J (tkn T n τ.en) with
      | error z => trivial
      | ok r =>
        rw [hr] at hj
        obtain ⟨j1, j2, j3⟩ := hj
        refine ih _ _ j1 ?_ ?_
        · show (a.1 ++ (r.1.1 ++ [20000 + τ.k])).length + τ0.st ≤ r.2.st
          rw [List.length_append, List.length_append]
          have := hn.1
          show a.1.length + (r.1.1.length + 1) + τ0.st ≤ r.2.st
          omega
        · show (a.2.1 ++ (mop τ.k :: r.1.2.1)).length + τ0.st ≤ r.2.st
          rw [List.length_append, List.length_cons]
          have := hn.1
          omega
    · rw [if_neg g]
      exact ⟨h, h1, h2⟩
theorem pE_G : ∀ m, (∀ l d τ, TG T n τ → pGo T n τ ((pE (tkn T n) e m).1 l d τ)) ∧ (∀ d τ, TG T n τ → pGo T n τ ((pE (tkn T n) e m).2 d τ)) := by
  intro m
  induction m with
  | zero => exact ⟨fun _ _ _ _ => trivial, fun _ _ _ => trivial⟩
  | succ m ih =>
    constructor
    · intro l d τ h
      show pGo T n τ (pJn _ _ _ _ _ _)
      unfold pJn
      by_cases hl : l < 4
      · rw [if_pos hl]
        have h1 := ih.1 (l + 1) d τ h
        cases hr : (pE (tkn T n) e m).1 (l + 1) d τ with
        | error z => trivial
        | ok r =>
          rw [hr] at h1
          exact jLp_G (fun τ h => ih.1 (l + 1) d τ h) hl _ _ _ h1.1 h1.2.1 h1.2.2
      · rw [if_neg hl]
        exact ih.2 d τ h
    · intro d τ h
      show pGo T n τ (pPart _ _ _ _ _ _)
      have hn := h.nx
      have hp := h
      obtain ⟨p, ht⟩ := hp
      have h3 := ht.2.2.2.1
      have h4 := hn.1
      unfold pPart
      by_cases c2 : τ.k = 2
      · rw [if_pos c2]
        cases who e τ.pw with
        | none => trivial
        | some r =>
          show pGo T n τ (if r < 4 then (if d < 5 then .ok (eNam r, tkn T n τ.en) else .error (5 + 16 * τ.st)) else .error (2 + 16 * τ.st))
          split
          · split
            · have := h3 (by omega)
              exact ⟨⟨_, hn⟩, by show 1 + τ.st ≤ (tkn T n τ.en).st; omega, by show 1 + τ.st ≤ (tkn T n τ.en).st; omega⟩
            · trivial
          · trivial
      · rw [if_neg c2]
        by_cases c3 : τ.k = 3
        · rw [if_pos c3]
          split
          · have := h3 (by omega)
            exact ⟨⟨_, hn⟩, by show 1 + τ.st ≤ (tkn T n τ.en).st; omega, by show 1 + τ.st ≤ (tkn T n τ.en).st; omega⟩
          · trivial
        · rw [if_neg c3]
          by_cases c9 : τ.k = 9
          · rw [if_pos c9]
            split
            · have := h3 (by omega)
              have hj := ih.2 (d + 1) (tkn T n τ.en) ⟨_, hn⟩
              cases hr : (pE (tkn T n) e m).2 (d + 1) (tkn T n τ.en) with
              | error z => trivial
              | ok r =>
                rw [hr] at hj
                obtain ⟨j1, j2, j3⟩ := hj
                refine ⟨j1, ?_, ?_⟩
                · show (r.1.1 ++ [20009]).length + τ.st ≤ r.2.st
                  rw [List.length_append]
                  show r.1.1.length + 1 + τ.st ≤ r.2.st
                  omega
                · show (30 :: r.1.2.1).length + τ.st ≤ r.2.st
                  rw [List.length_cons]
                  omega
            · trivial
          · rw [if_neg c9]
            by_cases c40 : τ.k = 40
            · rw [if_pos c40]
              split
              · have := h3 (by omega)
                have hj := ih.1 0 (d + 1) (tkn T n τ.en) ⟨_, hn⟩
                cases hr : (pE (tkn T n) e m).1 0 (d + 1) (tkn T n τ.en) with
                | error z => trivial
                | ok r =>
                  rw [hr] at hj
                  obtain ⟨j1, j2, j3⟩ := hj
                  show pGo T n τ (if r.2.k = 41 then .ok (ePar r.1, tkn T n r.2.en) else .error (1 + 16 * r.2.st))
                  split
                  · rename_i c41
                    have hn2 := j1.nx
                    obtain ⟨p2, ht2⟩ := j1
                    have h5 := ht2.2.2.2.1 (by omega)
                    have h6 := hn2.1
                    refine ⟨⟨_, hn2⟩, ?_, ?_⟩
                    · show r.1.1.length + τ.st ≤ (tkn T n r.2.en).st
                      omega
                    · show (28 :: (r.1.2.1 ++ [29])).length + τ.st ≤ (tkn T n r.2.en).st
                      rw [List.length_cons, List.length_append]
                      show r.1.2.1.length + 1 + 1 + τ.st ≤ (tkn T n r.2.en).st
                      omega
                  · trivial
              · trivial
            · rw [if_neg c40]
              trivial
/-- a row of codes lies at c -/
def HC (s : Sg) (a : Nat) : Nat → List Nat → Prop
  | _, [] => True
  | c, x :: l => mI s a c = nI x ∧ HC s a (c + 1) l
theorem HC_ap {s : Sg} {a : Nat} : ∀ {l1 l2 : List Nat} {c : Nat}, HC s a c (l1 ++ l2) ↔ HC s a c l1 ∧ HC s a (c + l1.length) l2 := by
  intro l1
  induction l1 with
  | nil => intro l2 c; exact ⟨fun h => ⟨trivial, h⟩, fun h => h.2⟩
  | cons x l ih =>
    intro l2 c
    have e : c + (x :: l).length = c + 1 + l.length := by rw [List.length_cons]; omega
    rw [e]
    show (mI s a c = nI x ∧ HC s a (c + 1) (l ++ l2)) ↔ (mI s a c = nI x ∧ HC s a (c + 1) l) ∧ HC s a (c + 1 + l.length) l2
    rw [ih]
    exact ⟨fun h => ⟨⟨h.1, h.2.1⟩, h.2.2⟩, fun h => ⟨h.1.1, h.1.2, h.2⟩⟩
theorem HC_cg {s s' : Sg} {a a' : Nat} : ∀ {l : List Nat} {c c' : Nat}, (∀ k, k < l.length → mI s' a' (c' + k) = mI s a (c + k)) → HC s a c l → HC s' a' c' l := by
  intro l
  induction l with
  | nil => intro c c' _ _; trivial
  | cons x l ih =>
    intro c c' h hc
    refine ⟨(h 0 (by simp)).trans hc.1, ih (fun k hk => ?_) hc.2⟩
    have := h (k + 1) (by rw [List.length_cons]; omega)
    rw [show c' + 1 + k = c' + (k + 1) by omega, show c + 1 + k = c + (k + 1) by omega]
    exact this
end
