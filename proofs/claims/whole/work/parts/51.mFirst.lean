/-! plain ownings: the questions to the model -/
section
def plO (V : Vw) (x : Nat) : Option Int32 := gO (plW V x)
abbrev Pk : Type := Option (Nat × Int32)
def pB (b : Pk) : Int32 := match b with
  | none => -1
  | some t => nI t.1
def pM (b : Pk) : Int32 := match b with
  | none => 0
  | some t => t.2
/-- the first of the greatest -/
def pkS (g : Option Int32) (x : Nat) (b : Pk) : Pk := match g with
  | none => b
  | some v => (match b with
    | none => some (x, v)
    | some t => if t.2 < v then some (x, v) else some t)
def pkL (g : Nat → Option Int32) : Nat → Nat → Pk → Pk
  | 0, _, b => b
  | k + 1, x, b => pkL g k (x + 1) (pkS (g x) x b)
/-- how many are as great, and how many are none -/
def smS (g : Option Int32) (b : Pk) (n : Nat) : Nat := match g with
  | none => n
  | some v => (match b with
    | none => 1
    | some t => if t.2 < v then 1 else if v = t.2 then n + 1 else n)
def smL (g : Nat → Option Int32) : Nat → Nat → Pk → Nat → Nat
  | 0, _, _, n => n
  | k + 1, x, b, n => smL g k (x + 1) (pkS (g x) x b) (smS (g x) b n)
def noL (g : Nat → Option Int32) : Nat → Nat → Nat → Nat
  | 0, _, n => n
  | k + 1, x, n => noL g k (x + 1) (if g x = none then n + 1 else n)
def aFirst (V : Vw) (x : Int32) : Int32 := nB (bP V && wi x 0 2) (if x = 2 then nI (noL (plO V) (sOws V) 0 0) else if x = 0 then pB (pkL (plO V) (sOws V) 0 none) else match pkL (plO V) (sOws V) 0 none with
  | none => -1
  | some _ => nI (smL (plO V) (sOws V) 0 none 0))
def bReached (V : Vw) (x : Int32) : Bool := xb x (sOws V) && (plO V x.toNatClampNeg).isSome
def oV (o : Option Int32) : Int32 := match o with
  | none => 0
  | some v => v
def aReached (V : Vw) (x : Int32) : Int32 := oV (plO V x.toNatClampNeg)
def aGap (V : Vw) : Int32 := match pkL (plO V) (sOws V) 0 none, gO (askW V) with
  | some t, some v => t.2 - v
  | _, _ => -1
variable {V : Vw} {s : Sg}
theorem plO_cg {V' : Vw} (h : eqW V V') : plO V' = plO V := by
  funext x
  unfold plO
  rw [plW_cg h]
theorem sOws_cg {V' : Vw} (h : eqW V V') : sOws V' = sOws V := by unfold sOws; rw [eqW_pN h, eqW_tN h]
theorem sOws_0 (V : Vw) (h : ¬ bP V = true) : sOws V = 0 := by
  unfold bP at h
  unfold sOws
  rw [if_pos (by simpa using h)]
theorem sPow_pos {b : Nat} (hb : 0 < b) : ∀ k a, 0 < a → 0 < sPow b k a := by
  intro k
  induction k with
  | zero => intro a ha; exact ha
  | succ k ih => intro a ha; exact ih _ (Nat.mul_pos ha hb)
theorem sOws_1 {V : Vw} (h : bP V = true) : 0 < sOws V := by
  unfold bP at h
  unfold sOws
  rw [if_neg (by simp at h; omega)]
  exact sPow_pos (by omega) _ _ (by decide)
theorem pB_0 {b : Pk} (hb : ∀ t, b = some t → t.1 < 2 ^ 31) : ((pB b < 0) ↔ b = none) ∧ ((0 ≤ pB b) ↔ ¬ b = none) := by
  cases b with
  | none => exact ⟨⟨fun _ => rfl, fun _ => by decide⟩, ⟨fun h9 => absurd h9 (by decide), fun h9 => absurd rfl h9⟩⟩
  | some t =>
    have ht := hb t rfl
    exact ⟨⟨fun h9 => absurd h9 (nI_pos ht), fun h9 => by cases h9⟩, ⟨fun _ h9 => (by cases h9), fun _ => nI_pos' ht⟩⟩
theorem pkS_lt {g : Option Int32} {x : Nat} {b : Pk} (hb : ∀ t, b = some t → t.1 < x + 1) : ∀ t, pkS g x b = some t → t.1 < x + 1 + 1 := by
  intro t ht
  unfold pkS at ht
  cases g with
  | none => have := hb t ht; omega
  | some v =>
    cases b with
    | none => cases ht; omega
    | some u =>
      simp only at ht
      split at ht
      · cases ht; omega
      · cases ht; have := hb t rfl; omega
theorem m_reachedQ (h : RM V s) (x : Int32) : QM V s (f_Mo_reached x s) (gB (bReached V x) (aReached V x)) (tB (bReached V x)) := by
  have h1 := h.tr (a := 46) (k := 39) rfl (by decide) 10
  have f1 : FO s (uI s 46 39 10) := FO.uI s (a := 46) (k := 39) 10 (by decide)
  have w1 : eqW V (vU V 46 39 10) := eqW.vU rfl _
  have hb : bP (vU V 46 39 10) = bP V := by unfold bP; rw [eqW_pN w1]
  have ho := sOws_le h.w
  have hn : QM V s (f_Mo_reached_b33 x 1 (uI s 46 39 10)) 0 1 := by
    have ft := FO_th f1 1
    unfold f_Mo_reached_b33
    simp only [f_ck_of h1.b, ft.2]
    rw [if_pos trivial]
    exact QM.mk rfl (h1.sc 46 0 1 rfl) ft.1 w1 ft.2
  unfold f_Mo_reached f_Mo_reached_b28
  simp only [f_ck_of h.b, (pe_0 h1).2, hb, f_bd_of (m_owningsOf h1), sOws_cg w1, f_bd_of (m_wi x 0 (nI (sOws V) - 1)), ite10]
  by_cases c : bP V = true
  · rw [if_neg (fun h9 => h9 c)]
    have hpos := sOws_1 c
    have ew : wi x 0 (nI (sOws V) - 1) = xb x (sOws V) := by
      obtain ⟨m, hm⟩ : ∃ m, sOws V = m + 1 := ⟨sOws V - 1, by omega⟩
      rw [hm, nI_pred]
      unfold wi xb
      by_cases c1 : x < 0
      · simp [c1]
      · obtain ⟨k, hk, rfl⟩ := nI_of c1
        have e1 : decide (nI m < nI k) = decide (nI (m + 1) ≤ nI k) := by
          rw [decide_eq_decide, nI_ltI (by omega) hk, nI_leI (by omega) hk]
          omega
        rw [e1]
    rw [ew]
    by_cases c2 : xb x (sOws V) = true
    · obtain ⟨k, hk, rfl⟩ := xb_t c2 (by omega)
      have ft := FO_th f1 0
      have h2 := h1.sc 46 0 0 rfl
      obtain ⟨s3, V3, e3, h3, f3, w3, -, r3⟩ := m_reachByQ h2 (vU_at _ _ _ _) (x := k) (by omega)
      rw [plW_cg w1] at r3
      rw [if_pos c2]
      unfold f_Mo_reached_b33
      simp only [f_ck_of h1.b, ft.2, f_bd_of e3, f_ck_of h3.b]
      rw [if_neg (by decide)]
      unfold bReached aReached plO f_Mo_reached_b64
      rw [c2, nI_clamp (by omega)]
      have fx := fun t => FO_th (ft.1.trans f3.1) t
      have hx := fun t => h3.sc 46 0 t rfl
      cases hg : gO (plW V k) with
      | none =>
        obtain ⟨r55, r56⟩ := r3.1 hg
        rw [if_pos r55, f_ck_of h3.b]
        refine QM.mk ?_ (hx 1) (fx 1).1 (w1.trans w3) (fx 1).2
        show some (mI (uI s3 46 0 1) 46 56, uI s3 46 0 1) = _
        rw [mI_ne _ _ (by decide), r56]
        rfl
      | some v =>
        obtain ⟨r55, r56⟩ := r3.2 v hg
        rw [if_neg (by rw [r55]; decide), f_ck_of h3.b]
        refine QM.mk ?_ (hx 0) (fx 0).1 (w1.trans w3) (fx 0).2
        show some (mI (uI s3 46 0 0) 46 56, uI s3 46 0 0) = _
        rw [mI_ne _ _ (by decide), r56]
        rfl
    · rw [if_neg c2]
      have e : bReached V x = false := by unfold bReached; simp [c2]
      rw [e]; exact hn
  · rw [if_pos c]
    have e : bReached V x = false := by
      have c3 : xb x (sOws V) = false := by
        rw [sOws_0 V c]
        unfold xb
        by_cases c4 : x < 0
        · simp [c4]
        · obtain ⟨k, hk, rfl⟩ := nI_of c4
          have : nI 0 ≤ nI k := nI_le (by omega) hk
          simp [this]
      unfold bReached; rw [c3]; rfl
    rw [e]; exact hn
theorem m_first_h (x1 : Int32) : ∀ (k x n : Nat) (b : Pk) (sm no : Nat) (V : Vw) (s : Sg), RM V s → V 46 39 = 10 → (∀ t, b = some t → t.1 < x + 1) → x + k = sOws V → k < n →
    ∃ s' V', f_Mo_first_h42 n x1 (pB b) (pM b) (nI sm) (nI no) (nI x) s = some (if x1 = 2 then nI (noL (plO V) k x no) else if pkL (plO V) k x b = none then -1 else if x1 = 0 then pB (pkL (plO V) k x b) else nI (smL (plO V) k x b sm), s') ∧ RM V' s' ∧ FM s s' ∧ eqW V V' ∧ V' 46 39 = 10 := by
  intro k
  induction k with
  | zero =>
    intro x n b sm no V s h h39 hb hx hn
    obtain ⟨n, rfl⟩ : ∃ m, n = m + 1 := ⟨n - 1, by omega⟩
    have ho := sOws_le h.w
    refine ⟨s, V, ?_, h, FM.rf s, eqW.rf V, h39⟩
    show f_Mo_first_b42 _ _ _ _ _ _ _ _ = _
    unfold f_Mo_first_b42
    rw [f_ck_of h.b, f_bd_of (m_owningsOf h), if_pos (nI_le (by omega) (by omega))]
    unfold f_Mo_first_b120
    show _ = some (if x1 = 2 then nI no else if b = none then -1 else if x1 = 0 then pB b else nI sm, s)
    by_cases c : x1 = 2
    · rw [if_pos c, if_pos c]
    · rw [if_neg c, if_neg c]
      by_cases c2 : b = none
      · rw [if_neg (fun h9 => ((pB_0 (fun t ht => by have := hb t ht; omega)).2.mp h9) c2), if_pos c2]
      · rw [if_pos ((pB_0 (fun t ht => by have := hb t ht; omega)).2.mpr c2), if_neg c2]
        by_cases c3 : x1 = 0
        · rw [if_pos c3, if_pos c3]
        · rw [if_neg c3, if_neg c3]
  | succ k ih =>
    intro x n b sm no V s h h39 hb hx hn
    obtain ⟨n, rfl⟩ : ∃ m, n = m + 1 := ⟨n - 1, by omega⟩
    have ho := sOws_le h.w
    obtain ⟨s1, V1, e1, h1, f1, w1, z1, r1⟩ := m_reachByQ h h39 (x := x) (by omega)
    have hb2 := pkS_lt (g := plO V x) hb
    obtain ⟨s2, V2, e2, h2, f2, w2, z2⟩ := ih (x + 1) n (pkS (plO V x) x b) (smS (plO V x) b sm) (if plO V x = none then no + 1 else no) V1 s1 h1 z1 hb2 (by rw [sOws_cg w1]; omega) (by omega)
    rw [plO_cg w1] at e2
    refine ⟨s2, V2, ?_, h2, f1.trans f2, w1.trans w2, z2⟩
    show f_Mo_first_b42 _ _ _ _ _ _ _ _ = some (if x1 = 2 then nI (noL (plO V) k (x + 1) (if plO V x = none then no + 1 else no)) else if pkL (plO V) k (x + 1) (pkS (plO V x) x b) = none then -1 else if x1 = 0 then pB (pkL (plO V) k (x + 1) (pkS (plO V x) x b)) else nI (smL (plO V) k (x + 1) (pkS (plO V x) x b) (smS (plO V x) b sm)), s2)
    rw [← e2]
    unfold f_Mo_first_b42
    rw [f_ck_of h.b, f_bd_of (m_owningsOf h), if_neg (nI_ge (by omega) (by omega)), f_ck_of h.b, f_bd_of e1, f_ck_of h1.b]
    unfold f_Mo_first_b97 f_Mo_first_b103 f_Mo_first_b114
    have hp := pB_0 (b := b) (fun t ht => by have := hb t ht; omega)
    have hg : plO V x = gO (plW V x) := rfl
    simp only [f_ck_of h1.b, nI_1]
    cases hv : gO (plW V x) with
    | none =>
      obtain ⟨r55, r56⟩ := r1.1 hv
      rw [hg, hv, if_pos r55, if_pos rfl]
      rfl
    | some v =>
      obtain ⟨r55, r56⟩ := r1.2 v hv
      rw [hg, hv, if_neg (by rw [r55]; decide), r56, if_neg (show ¬ (some v : Option Int32) = none from fun h9 => by cases h9)]
      cases b with
      | none =>
        rw [if_pos (hp.1.mpr rfl)]
        rfl
      | some t =>
        rw [if_neg (fun h9 => by have := hp.1.mp h9; cases this)]
        show (if t.2 < v then _ else _) = f_Mo_first_h42 n x1 (pB (if t.2 < v then some (x, v) else some t)) (pM (if t.2 < v then some (x, v) else some t)) (nI (if t.2 < v then 1 else if v = t.2 then sm + 1 else sm)) (nI no) (nI (x + 1)) s1
        by_cases c : t.2 < v
        · rw [if_pos c, if_pos c, if_pos c]
          rfl
        · rw [if_neg c, if_neg c, if_neg c]
          by_cases c2 : v = t.2
          · rw [if_pos (show v = pM (some t) from c2), if_pos c2]
          · rw [if_neg (show ¬ v = pM (some t) from c2), if_neg c2, Int32.add_zero]
theorem m_first_i (h : RM V s) (x : Int32) : ∃ s' V', f_Mo_first x s = some (aFirst V x, s') ∧ RM V' s' ∧ FO s s' ∧ eqW V V' ∧ mI s' 46 0 = 0 ∧ V' 46 39 = 10 := by
  obtain ⟨V1, h1, f1, w1, t1, z1, -⟩ := h.ten 0
  have hb : bP V1 = bP V := by unfold bP; rw [eqW_pN w1]
  have ho := sOws_le h.w
  unfold f_Mo_first aFirst nB
  simp only [f_ck_of h.b, (pe_0 h1).2, hb, f_bd_of (m_wi x 0 2), ite10]
  by_cases c : bP V = true
  · rw [if_neg (fun h9 => h9 c)]
    by_cases c2 : wi x 0 2 = true
    · rw [if_pos c2, c, c2, if_pos (by rfl)]
      obtain ⟨s2, V2, e2, h2, f2, w2, z2⟩ := m_first_h x (sOws V) 0 zl_fl none 0 0 V1 _ h1 z1 (fun t ht => by cases ht) (by rw [sOws_cg w1]; omega) (zl_fl_lt (by omega))
      rw [plO_cg w1] at e2
      refine ⟨s2, V2, ?_, h2, f1.trans f2.1, w1.trans w2, f2.2.trans t1, z2⟩
      refine Eq.trans e2 ?_
      by_cases c3 : x = 2
      · rw [if_pos c3, if_pos c3]
      · rw [if_neg c3, if_neg c3]
        cases hk : pkL (plO V) (sOws V) 0 none with
        | none =>
          rw [if_pos rfl]
          by_cases c4 : x = 0
          · rw [if_pos c4]; rfl
          · rw [if_neg c4]
        | some t =>
          rw [if_neg (show ¬ (some t : Pk) = none from fun h9 => by cases h9)]
    · rw [if_neg c2, if_neg (by simp [c2])]
      exact ⟨_, V1, rfl, h1, f1, w1, t1, z1⟩
  · rw [if_pos c, if_neg (by simp [c])]
    exact ⟨_, V1, rfl, h1, f1, w1, t1, z1⟩
theorem m_firstQ (h : RM V s) (x : Int32) : QM V s (f_Mo_first x s) (aFirst V x) 0 := by
  obtain ⟨s1, V1, e1, h1, f1, w1, t1, -⟩ := m_first_i h x
  exact QM.mk e1 h1 f1 w1 t1
end
