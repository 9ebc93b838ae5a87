/-! works: words and tokens -/
section
/-- a word's letters, to the bases 256 and 27; a number's digits -/
def pv (g : Nat → Nat) : Nat → Nat
  | 0 => 0
  | l + 1 => pv g l * 256 + g l
def hv (g : Nat → Nat) : Nat → Nat
  | 0 => 0
  | l + 1 => hv g l * 27 + (g l - 96)
def nv (g : Nat → Nat) : Nat → Nat
  | 0 => 0
  | l + 1 => nv g l * 10 + (g l - 48)
def ltr (g : Nat → Nat) (l : Nat) : Prop := ∀ j, j < l → 97 ≤ g j ∧ g j ≤ 122
theorem ltr_m {g : Nat → Nat} {l : Nat} (h : ltr g (l + 1)) : ltr g l := fun j hj => h j (by omega)
theorem pv_eq : ∀ (l l' : Nat) (g g' : Nat → Nat), ltr g l → ltr g' l' → (pv g l = pv g' l' ↔ l = l' ∧ ∀ j, j < l → g j = g' j) := by
  intro l
  induction l with
  | zero =>
    intro l' g g' h h'
    cases l' with
    | zero => exact ⟨fun _ => ⟨rfl, fun j hj => absurd hj (by omega)⟩, fun _ => rfl⟩
    | succ l' =>
      have := h' l' (by omega)
      refine ⟨fun e => ?_, fun e => absurd e.1 (by omega)⟩
      have e2 : 0 = pv g' l' * 256 + g' l' := e
      omega
  | succ l ih =>
    intro l' g g' h h'
    have h1 := h l (by omega)
    cases l' with
    | zero =>
      refine ⟨fun e => ?_, fun e => absurd e.1 (by omega)⟩
      have e2 : pv g l * 256 + g l = 0 := e
      omega
    | succ l' =>
      have h2 := h' l' (by omega)
      have hi := ih l' g g' (ltr_m h) (ltr_m h')
      constructor
      · intro e
        have e2 : pv g l * 256 + g l = pv g' l' * 256 + g' l' := e
        have e3 : pv g l = pv g' l' := by omega
        obtain ⟨e4, e5⟩ := hi.mp e3
        subst e4
        refine ⟨rfl, fun j hj => ?_⟩
        by_cases c : j = l
        · rw [c]; omega
        · exact e5 j (by omega)
      · rintro ⟨e4, e5⟩
        obtain rfl : l = l' := by omega
        show pv g l * 256 + g l = pv g' l * 256 + g' l
        rw [hi.mpr ⟨rfl, fun j hj => e5 j (by omega)⟩, e5 l (by omega)]
theorem hv_eq : ∀ (l l' : Nat) (g g' : Nat → Nat), ltr g l → ltr g' l' → (hv g l = hv g' l' ↔ l = l' ∧ ∀ j, j < l → g j = g' j) := by
  intro l
  induction l with
  | zero =>
    intro l' g g' h h'
    cases l' with
    | zero => exact ⟨fun _ => ⟨rfl, fun j hj => absurd hj (by omega)⟩, fun _ => rfl⟩
    | succ l' =>
      have := h' l' (by omega)
      refine ⟨fun e => ?_, fun e => absurd e.1 (by omega)⟩
      have e2 : 0 = hv g' l' * 27 + (g' l' - 96) := e
      omega
  | succ l ih =>
    intro l' g g' h h'
    have h1 := h l (by omega)
    cases l' with
    | zero =>
      refine ⟨fun e => ?_, fun e => absurd e.1 (by omega)⟩
      have e2 : hv g l * 27 + (g l - 96) = 0 := e
      omega
    | succ l' =>
      have h2 := h' l' (by omega)
      have hi := ih l' g g' (ltr_m h) (ltr_m h')
      constructor
      · intro e
        have e2 : hv g l * 27 + (g l - 96) = hv g' l' * 27 + (g' l' - 96) := e
        have e3 : hv g l = hv g' l' := by omega
        obtain ⟨e4, e5⟩ := hi.mp e3
        subst e4
        refine ⟨rfl, fun j hj => ?_⟩
        by_cases c : j = l
        · rw [c]; omega
        · exact e5 j (by omega)
      · rintro ⟨e4, e5⟩
        obtain rfl : l = l' := by omega
        show hv g l * 27 + (g l - 96) = hv g' l * 27 + (g' l - 96)
        rw [hi.mpr ⟨rfl, fun j hj => e5 j (by omega)⟩, e5 l (by omega)]
theorem pv_lt {g : Nat → Nat} : ∀ {l : Nat}, ltr g (l + 1) → pv g (l + 1) < 123 * 256 ^ l := by
  intro l
  induction l with
  | zero =>
    intro h
    have := h 0 (by omega)
    show 0 * 256 + g 0 < 123 * 1
    omega
  | succ l ih =>
    intro h
    have h1 := h (l + 1) (by omega)
    have h2 := ih (ltr_m h)
    show pv g (l + 1) * 256 + g (l + 1) < 123 * 256 ^ (l + 1)
    rw [Nat.pow_succ]
    omega
theorem hv_lt {g : Nat → Nat} : ∀ {l : Nat}, ltr g l → hv g l < 27 ^ l := by
  intro l
  induction l with
  | zero => intro _; exact (by decide : (0 : Nat) < 27 ^ 0)
  | succ l ih =>
    intro h
    have h1 := h l (by omega)
    have h2 := ih (ltr_m h)
    show hv g l * 27 + (g l - 96) < 27 ^ (l + 1)
    rw [Nat.pow_succ]
    omega
theorem nv_lt {g : Nat → Nat} : ∀ {l : Nat}, (∀ j, j < l → 48 ≤ g j ∧ g j ≤ 57) → nv g l < 10 ^ l := by
  intro l
  induction l with
  | zero => intro _; exact (by decide : (0 : Nat) < 10 ^ 0)
  | succ l ih =>
    intro h
    have h1 := h l (by omega)
    have h2 := ih (fun j hj => h j (by omega))
    show nv g l * 10 + (g l - 48) < 10 ^ (l + 1)
    rw [Nat.pow_succ]
    omega
theorem pv_63 {g : Nat → Nat} {l : Nat} (h : ltr g l) (hl : l ≤ 8) : pv g l < 2 ^ 63 := by
  cases l with
  | zero => exact (by decide : (0 : Nat) < 2 ^ 63)
  | succ l =>
    have h1 := pv_lt h
    have h2 : 256 ^ l ≤ 256 ^ 7 := Nat.pow_le_pow_right (by decide) (by omega)
    have h3 : (256 : Nat) ^ 7 = 72057594037927936 := by decide
    omega
theorem pv_55 {g : Nat → Nat} {l : Nat} (h : ltr g l) (hl : l < 8) : pv g l < 2 ^ 55 := by
  cases l with
  | zero => exact (by decide : (0 : Nat) < 2 ^ 55)
  | succ l =>
    have h1 := pv_lt h
    have h2 : 256 ^ l ≤ 256 ^ 6 := Nat.pow_le_pow_right (by decide) (by omega)
    have h3 : (256 : Nat) ^ 6 = 281474976710656 := by decide
    omega
theorem hv_63 {g : Nat → Nat} {l : Nat} (h : ltr g l) (hl : l ≤ 8) : hv g l < 2 ^ 62 := by
  have h1 := hv_lt h
  have h2 : 27 ^ l ≤ 27 ^ 8 := Nat.pow_le_pow_right (by decide) hl
  have h3 : (27 : Nat) ^ 8 = 282429536481 := by decide
  omega
/-- the two readings of one word -/
def wOK (a b : Nat) : Prop := ∃ g l, ltr g l ∧ 1 ≤ l ∧ l ≤ 8 ∧ a = pv g l ∧ b = hv g l
theorem wOK_eq {a b a' b' : Nat} (h : wOK a b) (h' : wOK a' b') : a = a' ↔ b = b' := by
  obtain ⟨g, l, h1, h2, h3, rfl, rfl⟩ := h
  obtain ⟨g', l', k1, k2, k3, rfl, rfl⟩ := h'
  rw [pv_eq _ _ _ _ h1 k1, hv_eq _ _ _ _ h1 k1]
theorem wOK_63 {a b : Nat} (h : wOK a b) : a < 2 ^ 63 ∧ b < 2 ^ 62 := by
  obtain ⟨g, l, h1, h2, h3, rfl, rfl⟩ := h
  exact ⟨pv_63 h1 h3, hv_63 h1 h3⟩
/-- the words that are none's names -/
def kwd (a : Nat) : Nat := if a = 123581014175598 then 4 else if a = 427071599731 then 5 else if a = 499967946343 then 6 else if a = 469785863539 then 7 else if a = 2003399784 then 8 else if a = 7237492 then 9 else if a = 6385252 then 10 else if a = 28530 then 11 else 2
def gLw (l : List Nat) (j : Nat) : Nat := l.getD j 97
theorem wk_of (l : List Nat) (a b : Nat) (h : (l.all (fun c => decide (97 ≤ c) && decide (c ≤ 122)) && decide (1 ≤ l.length) && decide (l.length ≤ 8)) = true) (ha : pv (gLw l) l.length = a) (hb : hv (gLw l) l.length = b) : wOK a b := by
  simp only [Bool.and_eq_true, decide_eq_true_eq, List.all_eq_true] at h
  refine ⟨gLw l, l.length, fun j hj => ?_, h.1.2, h.2, ha.symm, hb.symm⟩
  have e : gLw l j = l[j] := by unfold gLw; rw [List.getD_eq_getElem?_getD, List.getElem?_eq_getElem hj]; rfl
  rw [e]
  exact h.1.1 _ (List.getElem_mem hj)
theorem wk_4 : wOK 123581014175598 232608281 := wk_of [112, 101, 114, 115, 111, 110] _ _ (by decide) (by decide) (by decide)
theorem wk_5 : wOK 427071599731 1903978 := wk_of [99, 111, 115, 116, 115] _ _ (by decide) (by decide) (by decide)
theorem wk_6 : wOK 499967946343 10793230 := wk_of [116, 104, 105, 110, 103] _ _ (by decide) (by decide) (by decide)
theorem wk_7 : wOK 469785863539 6936589 := wk_of [109, 97, 107, 101, 115] _ _ (by decide) (by decide) (by decide)
theorem wk_8 : wOK 2003399784 459818 := wk_of [119, 105, 116, 104] _ _ (by decide) (by decide) (by decide)
theorem wk_9 : wOK 7237492 10631 := wk_of [110, 111, 116] _ _ (by decide) (by decide) (by decide)
theorem wk_10 : wOK 6385252 1111 := wk_of [97, 110, 100] _ _ (by decide) (by decide) (by decide)
theorem wk_11 : wOK 28530 423 := wk_of [111, 114] _ _ (by decide) (by decide) (by decide)
theorem kwd_r (a : Nat) : kwd a = 2 ∨ (4 ≤ kwd a ∧ kwd a ≤ 11) := by
  unfold kwd
  repeat' split
  all_goals omega
/-- a token: kind, beginning, end, the word's two readings, the number -/
abbrev Tok : Type := Nat × Nat × Nat × Nat × Nat × Nat
abbrev Tok.k (τ : Tok) : Nat := τ.1
abbrev Tok.st (τ : Tok) : Nat := τ.2.1
abbrev Tok.en (τ : Tok) : Nat := τ.2.2.1
abbrev Tok.pw (τ : Tok) : Nat := τ.2.2.2.1
abbrev Tok.hw (τ : Tok) : Nat := τ.2.2.2.2.1
abbrev Tok.v (τ : Tok) : Nat := τ.2.2.2.2.2
def run (T : Nat → Nat) (n : Nat) (P : Nat → Bool) : Nat → Nat → Nat
  | 0, p => p
  | f + 1, p => if p < n ∧ P (T p) = true then run T n P f (p + 1) else p
def isB (c : Nat) : Bool := c == 32 || c == 10
def isL (c : Nat) : Bool := decide (97 ≤ c) && decide (c ≤ 122)
def isD (c : Nat) : Bool := decide (48 ≤ c) && decide (c ≤ 57)
def isS (c : Nat) : Bool := c == 40 || c == 41 || c == 60 || c == 61 || c == 43 || c == 45 || c == 42 || c == 59
theorem isL_t {c : Nat} : isL c = true ↔ 97 ≤ c ∧ c ≤ 122 := by unfold isL; simp
theorem isD_t {c : Nat} : isD c = true ↔ 48 ≤ c ∧ c ≤ 57 := by unfold isD; simp
theorem isB_t {c : Nat} : isB c = true ↔ c = 32 ∨ c = 10 := by unfold isB; simp
theorem isS_t {c : Nat} : isS c = true ↔ c = 40 ∨ c = 41 ∨ c = 60 ∨ c = 61 ∨ c = 43 ∨ c = 45 ∨ c = 42 ∨ c = 59 := by unfold isS; simp [or_assoc]
variable {T : Nat → Nat} {n : Nat} {P : Nat → Bool}
theorem run_le : ∀ {f p : Nat}, p ≤ run T n P f p := by
  intro f
  induction f with
  | zero => intro p; exact Nat.le_refl _
  | succ f ih =>
    intro p
    unfold run
    split
    · have := @ih (p + 1); omega
    · exact Nat.le_refl _
theorem run_n : ∀ {f p : Nat}, p ≤ n → run T n P f p ≤ n := by
  intro f
  induction f with
  | zero => intro p h; exact h
  | succ f ih =>
    intro p h
    unfold run
    split
    · rename_i c; exact ih (by omega)
    · exact h
theorem run_all : ∀ {f p j : Nat}, p ≤ j → j < run T n P f p → P (T j) = true := by
  intro f
  induction f with
  | zero => intro p j h1 h2; exact absurd h2 (Nat.not_lt.mpr h1)
  | succ f ih =>
    intro p j h1 h2
    unfold run at h2
    split at h2
    · rename_i c
      by_cases e : j = p
      · rw [e]; exact c.2
      · exact ih (by omega) h2
    · omega
theorem run_1 {p : Nat} (hp : p < n) (h : P (T p) = true) : p < run T n P (n - p) p := by
  obtain ⟨f, e⟩ : ∃ f, n - p = f + 1 := ⟨n - p - 1, by omega⟩
  rw [e]
  unfold run
  rw [if_pos ⟨hp, h⟩]
  have := @run_le T n P f (p + 1)
  omega
/-- the token that is taken from the place p on -/
def tkn (T : Nat → Nat) (n p : Nat) : Tok :=
  if run T n isB (n - p) p < n then
    if isL (T (run T n isB (n - p) p)) = true then
      ⟨if run T n isL (n - run T n isB (n - p) p) (run T n isB (n - p) p) - run T n isB (n - p) p ≤ 8 then kwd (pv (fun j => T (run T n isB (n - p) p + j)) (run T n isL (n - run T n isB (n - p) p) (run T n isB (n - p) p) - run T n isB (n - p) p)) else 1, run T n isB (n - p) p, run T n isL (n - run T n isB (n - p) p) (run T n isB (n - p) p), pv (fun j => T (run T n isB (n - p) p + j)) (run T n isL (n - run T n isB (n - p) p) (run T n isB (n - p) p) - run T n isB (n - p) p), hv (fun j => T (run T n isB (n - p) p + j)) (run T n isL (n - run T n isB (n - p) p) (run T n isB (n - p) p) - run T n isB (n - p) p), 0⟩
    else if isD (T (run T n isB (n - p) p)) = true then
      ⟨if run T n isD (n - run T n isB (n - p) p) (run T n isB (n - p) p) - run T n isB (n - p) p ≤ 4 then 3 else 1, run T n isB (n - p) p, run T n isD (n - run T n isB (n - p) p) (run T n isB (n - p) p), 0, 0, nv (fun j => T (run T n isB (n - p) p + j)) (run T n isD (n - run T n isB (n - p) p) (run T n isB (n - p) p) - run T n isB (n - p) p)⟩
    else ⟨if isS (T (run T n isB (n - p) p)) = true then T (run T n isB (n - p) p) else 1, run T n isB (n - p) p, run T n isB (n - p) p + 1, 0, 0, 0⟩
  else ⟨0, run T n isB (n - p) p, run T n isB (n - p) p, 0, 0, 0⟩
/-- what is known of a token -/
def TF (T : Nat → Nat) (n p : Nat) (τ : Tok) : Prop := p ≤ τ.st ∧ τ.st ≤ τ.en ∧ τ.en ≤ n ∧ (τ.k ≠ 0 → τ.st < τ.en) ∧ (τ.k = 2 ∨ (4 ≤ τ.k ∧ τ.k ≤ 11) → wOK τ.pw τ.hw ∧ τ.k = kwd τ.pw) ∧ (τ.k = 3 → τ.v ≤ 9999) ∧ (12 ≤ τ.k → T τ.st = τ.k ∧ isS τ.k = true) ∧ τ.k ≤ 61
theorem tkn_F {p : Nat} (hp : p ≤ n) : TF T n p (tkn T n p) := by
  have h1 := @run_le T n isB (n - p) p
  have h2 := @run_n T n isB (n - p) p hp
  unfold tkn
  generalize run T n isB (n - p) p = s at *
  by_cases c : s < n
  · rw [if_pos c]
    by_cases cl : isL (T s) = true
    · rw [if_pos cl]
      have h3 := @run_n T n isL (n - s) s h2
      have h4 := run_1 (T := T) (P := isL) c cl
      have h5 := fun j => @run_all T n isL (n - s) s j
      generalize run T n isL (n - s) s = e at *
      have hl : ltr (fun j => T (s + j)) (e - s) := fun j hj => isL_t.mp (h5 (s + j) (by omega) (by omega))
      refine ⟨h1, by show s ≤ e; omega, h3, fun _ => h4, fun hk => ?_, fun hk => ?_, fun hk => ?_, ?_⟩
      · have hk' : (if e - s ≤ 8 then kwd (pv (fun j => T (s + j)) (e - s)) else 1) = 2 ∨ _ := hk
        by_cases c8 : e - s ≤ 8
        · refine ⟨⟨_, e - s, hl, by omega, c8, rfl, rfl⟩, ?_⟩
          show (if e - s ≤ 8 then _ else 1) = _
          rw [if_pos c8]
        · rw [if_neg c8] at hk'
          have hk2 : (if e - s ≤ 8 then kwd (pv (fun j => T (s + j)) (e - s)) else 1) = 2 ∨ (4 ≤ (if e - s ≤ 8 then kwd (pv (fun j => T (s + j)) (e - s)) else 1) ∧ (if e - s ≤ 8 then kwd (pv (fun j => T (s + j)) (e - s)) else 1) ≤ 11) := hk
          rw [if_neg c8] at hk2
          omega
      · have hk' : (if e - s ≤ 8 then kwd (pv (fun j => T (s + j)) (e - s)) else 1) = 3 := hk
        have := kwd_r (pv (fun j => T (s + j)) (e - s))
        split at hk' <;> omega
      · have hk' : 12 ≤ (if e - s ≤ 8 then kwd (pv (fun j => T (s + j)) (e - s)) else 1) := hk
        have := kwd_r (pv (fun j => T (s + j)) (e - s))
        split at hk' <;> omega
      · show (if e - s ≤ 8 then kwd (pv (fun j => T (s + j)) (e - s)) else 1) ≤ 61
        have := kwd_r (pv (fun j => T (s + j)) (e - s))
        split <;> omega
    · rw [if_neg cl]
      by_cases cd : isD (T s) = true
      · rw [if_pos cd]
        have h3 := @run_n T n isD (n - s) s h2
        have h4 := run_1 (T := T) (P := isD) c cd
        have h5 := fun j => @run_all T n isD (n - s) s j
        generalize run T n isD (n - s) s = e at *
        refine ⟨h1, by show s ≤ e; omega, h3, fun _ => h4, fun hk => ?_, fun hk => ?_, fun hk => ?_, ?_⟩
        · have hk' : (if e - s ≤ 4 then 3 else 1) = 2 ∨ (4 ≤ (if e - s ≤ 4 then 3 else 1) ∧ (if e - s ≤ 4 then 3 else 1) ≤ 11) := hk
          split at hk' <;> omega
        · have hk' : (if e - s ≤ 4 then 3 else 1) = 3 := hk
          by_cases c4 : e - s ≤ 4
          · show nv (fun j => T (s + j)) (e - s) ≤ 9999
            have h6 := @nv_lt (fun j => T (s + j)) (e - s) (fun j hj => isD_t.mp (h5 (s + j) (by omega) (by omega)))
            have h7 : 10 ^ (e - s) ≤ 10 ^ 4 := Nat.pow_le_pow_right (by decide) c4
            omega
          · rw [if_neg c4] at hk'; omega
        · have hk' : 12 ≤ (if e - s ≤ 4 then 3 else 1) := hk
          split at hk' <;> omega
        · show (if e - s ≤ 4 then 3 else 1) ≤ 61
          split <;> omega
      · rw [if_neg cd]
        refine ⟨h1, by show s ≤ s + 1; omega, by show s + 1 ≤ n; omega, fun _ => by show s < s + 1; omega, fun hk => ?_, fun hk => ?_, fun hk => ?_, ?_⟩
        · have hk' : (if isS (T s) = true then T s else 1) = 2 ∨ (4 ≤ (if isS (T s) = true then T s else 1) ∧ (if isS (T s) = true then T s else 1) ≤ 11) := hk
          split at hk'
          · rename_i c2; have := isS_t.mp c2; omega
          · omega
        · have hk' : (if isS (T s) = true then T s else 1) = 3 := hk
          split at hk'
          · rename_i c2; have := isS_t.mp c2; omega
          · omega
        · have hk' : 12 ≤ (if isS (T s) = true then T s else 1) := hk
          show T s = (if isS (T s) = true then T s else 1) ∧ isS (if isS (T s) = true then T s else 1) = true
          split at hk'
          · rename_i c2
            rw [if_pos c2]
            exact ⟨rfl, c2⟩
          · omega
        · show (if isS (T s) = true then T s else 1) ≤ 61
          split
          · rename_i c2; have := isS_t.mp c2; omega
          · omega
  · rw [if_neg c]
    refine ⟨h1, Nat.le_refl _, h2, fun hk => absurd rfl hk, fun hk => ?_, fun hk => ?_, fun hk => ?_, Nat.zero_le _⟩
    · have hk' : 0 = 2 ∨ (4 ≤ 0 ∧ 0 ≤ 11) := hk
      omega
    · have hk' : (0 : Nat) = 3 := hk
      omega
    · have hk' : (12 : Nat) ≤ 0 := hk
      omega
end
