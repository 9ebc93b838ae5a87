/-! first, gap, joint, one hand: the class -/
section
variable {V : Vw} {s : Sg}
/-- how many are v -/
def ceL (g : Nat → Option Int32) (v : Int32) : Nat → Nat → Nat → Nat
  | 0, _, n => n
  | k + 1, x, n => ceL g v k (x + 1) (if g x = some v then n + 1 else n)
theorem pkL_ge (g : Nat → Option Int32) : ∀ (k x : Nat) (b : Pk) (t u : Nat × Int32), b = some t → pkL g k x b = some u → t.2 ≤ u.2 := by
  intro k
  induction k with
  | zero =>
    intro x b t u hb hu
    have : some t = some u := hb.symm.trans hu
    cases this
    exact Int32.le_refl _
  | succ k ih =>
    intro x b t u hb hu
    subst hb
    have e : pkL g (k + 1) x (some t) = pkL g k (x + 1) (pkS (g x) x (some t)) := rfl
    rw [e] at hu
    cases hg : g x with
    | none =>
      rw [hg] at hu
      exact ih (x + 1) _ t u rfl hu
    | some v =>
      rw [hg] at hu
      have e2 : pkS (some v) x (some t) = if t.2 < v then some (x, v) else some t := rfl
      rw [e2] at hu
      by_cases c : t.2 < v
      · rw [if_pos c] at hu
        exact Int32.le_trans (Int32.le_of_lt c) (ih (x + 1) _ (x, v) u rfl hu)
      · rw [if_neg c] at hu
        exact ih (x + 1) _ t u rfl hu
theorem sm_cn (g : Nat → Option Int32) : ∀ (k x : Nat) (b : Pk) (n : Nat) (u : Nat × Int32), pkL g k x b = some u → smL g k x b n = ceL g u.2 k x (match b with | none => 0 | some t => if t.2 = u.2 then n else 0) := by
  intro k
  induction k with
  | zero =>
    intro x b n u hu
    have hb : b = some u := hu
    subst hb
    show n = if u.2 = u.2 then n else 0
    rw [if_pos rfl]
  | succ k ih =>
    intro x b n u hu
    have e : pkL g (k + 1) x b = pkL g k (x + 1) (pkS (g x) x b) := rfl
    have hu' := hu
    rw [e] at hu
    have e1 : smL g (k + 1) x b n = smL g k (x + 1) (pkS (g x) x b) (smS (g x) b n) := rfl
    rw [e1, ih (x + 1) _ _ u hu]
    show _ = ceL g u.2 k (x + 1) (if g x = some u.2 then _ + 1 else _)
    congr 1
    cases hg : g x with
    | none =>
      rw [if_neg (fun h9 => by cases h9)]
      cases b with
      | none => rfl
      | some t => rfl
    | some v =>
      rw [hg] at hu
      cases b with
      | none =>
        have e2 : pkS (some v) x none = some (x, v) := rfl
        have e3 : smS (some v) none n = 1 := rfl
        rw [e2, e3]
        show (if v = u.2 then 1 else 0) = _
        by_cases c : v = u.2
        · rw [if_pos c, if_pos (by rw [c])]
        · rw [if_neg c, if_neg (fun h9 => by cases h9; exact c rfl)]
      | some t =>
        have e2 : pkS (some v) x (some t) = if t.2 < v then some (x, v) else some t := rfl
        have e3 : smS (some v) (some t) n = if t.2 < v then 1 else if v = t.2 then n + 1 else n := rfl
        rw [e2] at hu
        rw [e2, e3]
        by_cases c : t.2 < v
        · rw [if_pos c] at hu
          rw [if_pos c, if_pos c]
          have hge : v ≤ u.2 := pkL_ge g k (x + 1) _ (x, v) u rfl hu
          have hne : ¬ t.2 = u.2 := fun h9 => by rw [h9] at c; exact absurd hge (Int32.not_le.mpr c)
          show (if v = u.2 then 1 else 0) = (if some v = some u.2 then (if t.2 = u.2 then n else 0) + 1 else (if t.2 = u.2 then n else 0))
          rw [if_neg hne]
          by_cases c2 : v = u.2
          · rw [if_pos c2, if_pos (by rw [c2])]
          · rw [if_neg c2, if_neg (fun h9 => by cases h9; exact c2 rfl)]
        · rw [if_neg c] at hu
          rw [if_neg c, if_neg c]
          have hge : t.2 ≤ u.2 := pkL_ge g k (x + 1) _ t u rfl hu
          have hvt : v ≤ t.2 := Int32.not_lt.mp c
          show (if t.2 = u.2 then (if v = t.2 then n + 1 else n) else 0) = (if some v = some u.2 then (if t.2 = u.2 then n else 0) + 1 else (if t.2 = u.2 then n else 0))
          by_cases c2 : t.2 = u.2
          · rw [if_pos c2, if_pos c2]
            by_cases c3 : v = t.2
            · rw [if_pos c3, if_pos (by rw [c3, c2])]
            · rw [if_neg c3, if_neg (fun h9 => by cases h9; exact c3 c2.symm)]
          · rw [if_neg c2, if_neg c2]
            rw [if_neg (fun h9 => by
              cases h9
              exact c2 (Int32.le_antisymm hge hvt))]
theorem k_countPlain_h (h : KT (askW V) s) (ha : PA V s) (w : Int32) (p : Nat → Bool) (hw : ∀ x, x < sOws V → (plv V x = w ↔ p x = true)) : ∀ (k x n m : Nat), x + k = sOws V → k < n → f_Wk_countPlain_h5 n (nI (sOws V)) w (nI m) (nI x) s = some (nI (m + ((List.range' x k).filter p).length), s) := by
  have ho := sOws_le (askWV h)
  intro k
  induction k with
  | zero =>
    intro x n m hx hn
    obtain ⟨n, rfl⟩ : ∃ m, n = m + 1 := ⟨n - 1, by omega⟩
    show f_Wk_countPlain_b5 _ _ _ _ _ _ = _
    unfold f_Wk_countPlain_b5
    rw [if_pos (nI_le (by omega) (by omega))]
    rfl
  | succ k ih =>
    intro x n m hx hn
    obtain ⟨n, rfl⟩ : ∃ m, n = m + 1 := ⟨n - 1, by omega⟩
    show f_Wk_countPlain_b5 _ _ _ _ _ _ = _
    unfold f_Wk_countPlain_b5 f_Wk_countPlain_b25
    rw [if_neg (nI_ge (by omega) (by omega)), f_ck_of h.1.b, f_ck_of (vp_in_nI (by omega) (by decide)), nI_clamp (by omega), ha x (by omega), nI_1, nI_1]
    have e : List.range' x (k + 1) = x :: List.range' (x + 1) k := List.range'_succ
    rw [e]
    by_cases c : plv V x = w
    · rw [if_pos c, ih (x + 1) n (m + 1) (by omega) (by omega), List.filter_cons_of_pos ((hw x (by omega)).mp c)]
      simp only [List.length_cons]
      rw [show m + 1 + ((List.range' (x + 1) k).filter p).length = m + (((List.range' (x + 1) k).filter p).length + 1) by omega]
    · rw [if_neg c, ih (x + 1) n m (by omega) (by omega), List.filter_cons_of_neg (fun h9 => c ((hw x (by omega)).mpr h9))]
theorem ceL_f (g : Nat → Option Int32) (v : Int32) : ∀ (k x n : Nat), ceL g v k x n = n + ((List.range' x k).filter (fun x => decide (g x = some v))).length := by
  intro k
  induction k with
  | zero => intro x n; rfl
  | succ k ih =>
    intro x n
    have e : List.range' x (k + 1) = x :: List.range' (x + 1) k := List.range'_succ
    rw [e]
    show ceL g v k (x + 1) (if g x = some v then n + 1 else n) = _
    rw [ih]
    by_cases c : g x = some v
    · rw [if_pos c, List.filter_cons_of_pos (by simpa using c)]
      simp only [List.length_cons]
      omega
    · rw [if_neg c, List.filter_cons_of_neg (by simpa using c)]
theorem noL_f (g : Nat → Option Int32) : ∀ (k x n : Nat), noL g k x n = n + ((List.range' x k).filter (fun x => decide (g x = none))).length := by
  intro k
  induction k with
  | zero => intro x n; rfl
  | succ k ih =>
    intro x n
    have e : List.range' x (k + 1) = x :: List.range' (x + 1) k := List.range'_succ
    rw [e]
    show noL g k (x + 1) (if g x = none then n + 1 else n) = _
    rw [ih]
    by_cases c : g x = none
    · rw [if_pos c, List.filter_cons_of_pos (by simpa using c)]
      simp only [List.length_cons]
      omega
    · rw [if_neg c, List.filter_cons_of_neg (by simpa using c)]
theorem k_countNone (h : KT (askW V) s) (ha : PA V s) : f_Wk_countPlain (nI (sOws V)) (-1073741824) s = some (nI (noL (plO V) (sOws V) 0 0), s) := by
  have hW := askWV h
  have ho := sOws_le hW
  unfold f_Wk_countPlain
  have e := k_countPlain_h h ha (-1073741824) (fun x => decide (plO V x = none)) (fun x hx => by rw [(plv_none hW).1]; simp) (sOws V) 0 zl_fl 0 (by omega) (zl_fl_lt (by omega))
  rw [noL_f]
  exact e
theorem k_countSome (h : KT (askW V) s) (ha : PA V s) {v : Int32} (hv : bdI v 110000) : f_Wk_countPlain (nI (sOws V)) v s = some (nI (ceL (plO V) v (sOws V) 0 0), s) := by
  have hW := askWV h
  have ho := sOws_le hW
  unfold f_Wk_countPlain
  have e := k_countPlain_h h ha v (fun x => decide (plO V x = some v)) (fun x hx => by
    obtain ⟨n1, n2⟩ := plv_none (x := x) hW
    rw [decide_eq_true_eq]
    constructor
    · intro e
      cases hg : plO V x with
      | none => rw [n1.mpr hg] at e; exact absurd e.symm (bd_no hv).2.1
      | some w => rw [(n2 w hg).1] at e; rw [e]
    · intro e; exact (n2 v e).1) (sOws V) 0 zl_fl 0 (by omega) (zl_fl_lt (by omega))
  rw [ceL_f]
  exact e
theorem k_firstPlain_h (h : KT (askW V) s) (ha : PA V s) : ∀ (k x n : Nat) (b : Pk), (∀ t, b = some t → t.1 < x ∧ plO V t.1 = some t.2) → x + k = sOws V → k < n → f_Wk_firstPlain_h4 n (nI (sOws V)) (pB b) (nI x) s = some (pB (pkL (plO V) k x b), s) := by
  have hW := askWV h
  have ho := sOws_le hW
  intro k
  induction k with
  | zero =>
    intro x n b hb hx hn
    obtain ⟨n, rfl⟩ : ∃ m, n = m + 1 := ⟨n - 1, by omega⟩
    show f_Wk_firstPlain_b4 _ _ _ _ _ = _
    unfold f_Wk_firstPlain_b4
    rw [if_pos (nI_le (by omega) (by omega))]
    rfl
  | succ k ih =>
    intro x n b hb hx hn
    obtain ⟨n, rfl⟩ : ∃ m, n = m + 1 := ⟨n - 1, by omega⟩
    have i216 : vp_in (nI x) 216 := vp_in_nI (by omega) (by decide)
    obtain ⟨n1, n2⟩ := plv_none (x := x) hW
    have hpb := pB_ne (b := b) (fun t ht => by have := (hb t ht).1; omega)
    show f_Wk_firstPlain_b4 _ _ _ _ _ = some (pB (pkL (plO V) k (x + 1) (pkS (plO V x) x b)), s)
    unfold f_Wk_firstPlain_b4 f_Wk_firstPlain_b40 f_Wk_firstPlain_b42
    rw [if_neg (nI_ge (by omega) (by omega)), f_ck_of h.1.b, f_ck_of i216, f_ck_of i216, nI_clamp (by omega), ha x (by omega), nI_1]
    cases hg : plO V x with
    | none =>
      rw [if_pos (n1.mpr hg)]
      exact ih (x + 1) n b (fun t ht => ⟨by have := (hb t ht).1; omega, (hb t ht).2⟩) (by omega) (by omega)
    | some v =>
      obtain ⟨e1, hbd⟩ := n2 v hg
      rw [e1, if_neg (bd_no hbd).2.1]
      cases b with
      | none =>
        rw [if_pos (show pB none = -1 from rfl)]
        exact ih (x + 1) n (some (x, v)) (fun t ht => by cases ht; exact ⟨Nat.lt_succ_self x, hg⟩) (by omega) (by omega)
      | some t =>
        obtain ⟨t1, t2⟩ := hb t rfl
        have ev : plv V t.1 = t.2 := ((plv_none (x := t.1) hW).2 t.2 t2).1
        have ep : (pB (some t)).toNatClampNeg = t.1 := nI_clamp (by omega)
        rw [if_neg (fun h9 => by have := hpb.mp h9; cases this), f_ck_of (show vp_in (pB (some t)) 216 from vp_in_nI (by omega) (by decide)), ep, ha t.1 (by omega), ev]
        show _ = some (pB (pkL (plO V) k (x + 1) (if t.2 < v then some (x, v) else some t)), s)
        by_cases c : v ≤ t.2
        · rw [if_pos c, if_neg (Int32.not_lt.mpr c)]
          exact ih (x + 1) n (some t) (fun u hu => by cases hu; exact ⟨by omega, t2⟩) (by omega) (by omega)
        · rw [if_neg c, if_pos (Int32.not_le.mp c)]
          exact ih (x + 1) n (some (x, v)) (fun u hu => by cases hu; exact ⟨Nat.lt_succ_self x, hg⟩) (by omega) (by omega)
theorem k_firstPlain (h : KT (askW V) s) (ha : PA V s) : f_Wk_firstPlain (nI (sOws V)) s = some (pB (pkL (plO V) (sOws V) 0 none), s) := by
  have ho := sOws_le (askWV h)
  unfold f_Wk_firstPlain
  exact k_firstPlain_h h ha (sOws V) 0 zl_fl none (fun t ht => by cases ht) (by omega) (zl_fl_lt (by omega))
theorem sOws_b (hW : WV V) : (nI (sOws V) = 0 ↔ ¬ bP V = true) := by
  have ho := sOws_le hW
  constructor
  · intro e c
    have := sOws_1 c
    exact nI_ne0 this (by omega) e
  · intro c
    rw [sOws_0 V c]; rfl
theorem kq_first (h : KT (askW V) s) (hp : PL V s) (x : Int32) : QK V s (f_Wk_first x s) (aFirst V x) := by
  have hW := askWV h
  have ho := sOws_le hW
  unfold f_Wk_first aFirst nB
  simp only [f_ck_of h.1.b, f_bd_of (k_plainCount h.1), sOws_b hW, f_bd_of (k_isWithin (s := s) x 2), ite10]
  by_cases c : bP V = true
  · rw [if_neg (fun h9 => h9 c)]
    by_cases c2 : wi x 0 2 = true
    · obtain ⟨s1, e1, h1, q1, p1, g1⟩ := k_fillAll h hp (sOws_1 c)
      rw [if_pos c2, c, c2, if_pos (show (true && true) = true from rfl), f_bd_of e1]
      simp only [f_ck_of h1.1.b, f_bd_of (k_countNone h1 g1), f_bd_of (k_firstPlain h1 g1)]
      by_cases c3 : x = 2
      · rw [if_pos c3, if_pos c3]
        exact ⟨s1, rfl, h1, q1, p1⟩
      · rw [if_neg c3, if_neg c3]
        have hpk := pkL_lt (plO V) (sOws V) 0 none (fun t ht => by cases ht)
        cases hk : pkL (plO V) (sOws V) 0 none with
        | none =>
          rw [if_pos (show pB none = -1 from rfl)]
          refine ⟨s1, ?_, h1, q1, p1⟩
          by_cases c4 : x = 0
          · rw [if_pos c4]; rfl
          · rw [if_neg c4]
        | some t =>
          obtain ⟨t1, t2⟩ := hpk t hk
          obtain ⟨ev, hbd⟩ := (plv_none (x := t.1) hW).2 t.2 t2
          have ep : (pB (some t)).toNatClampNeg = t.1 := nI_clamp (by omega)
          rw [if_neg (fun h9 => by have := (pB_ne (b := some t) (fun u hu => by cases hu; omega)).mp h9; cases this)]
          by_cases c4 : x = 0
          · rw [if_pos c4, if_pos c4]
            exact ⟨s1, rfl, h1, q1, p1⟩
          · rw [if_neg c4, if_neg c4, f_ck_of (show vp_in (pB (some t)) 216 from vp_in_nI (by omega) (by decide)), ep, g1 t.1 (by omega), ev, f_bd_of (k_countSome h1 g1 hbd)]
            refine ⟨s1, ?_, h1, q1, p1⟩
            have := sm_cn (plO V) (sOws V) 0 none 0 t hk
            rw [this]
    · rw [if_neg c2, if_neg (by simp [c2])]; exact QK.mk hp rfl h (K0.rf s)
  · rw [if_pos c, if_neg (by simp [c])]; exact QK.mk hp rfl h (K0.rf s)
theorem kq_gap (h : KT (askW V) s) (hp : PL V s) : QK V s (f_Wk_gap s) (aGap V) := by
  have hW := askWV h
  have ho := sOws_le hW
  unfold f_Wk_gap f_Wk_gap_b41 aGap
  simp only [f_ck_of h.1.b, f_bd_of (k_plainCount h.1), sOws_b hW]
  by_cases c : bP V = true
  · rw [if_neg (fun h9 => h9 c)]
    obtain ⟨s1, e1, h1, q1, p1, g1⟩ := k_fillAll h hp (sOws_1 c)
    obtain ⟨s2, e2, h2, z2⟩ := k_reachedAsIs h1
    rw [f_bd_of e1, f_ck_of h1.1.b, f_bd_of (k_firstPlain h1 g1), f_ck_of h1.1.b, f_bd_of e2]
    have hpk := pkL_lt (plO V) (sOws V) 0 none (fun t ht => by cases ht)
    have p2 := p1.fr z2
    have q2 := q1.trans z2.q
    cases hk : pkL (plO V) (sOws V) 0 none with
    | none =>
      rw [if_pos (show pB none = -1 from rfl)]
      exact ⟨s2, rfl, h2.1, q2, p2⟩
    | some t =>
      obtain ⟨t1, t2⟩ := hpk t hk
      obtain ⟨ev, hbd⟩ := (plv_none (x := t.1) hW).2 t.2 t2
      have ep : (pB (some t)).toNatClampNeg = t.1 := nI_clamp (by omega)
      rw [if_neg (fun h9 => by have := (pB_ne (b := some t) (fun u hu => by cases hu; omega)).mp h9; cases this)]
      cases hg : gO (askW V) with
      | none =>
        rw [if_pos rfl]
        exact ⟨s2, rfl, h2.1, q2, p2⟩
      | some v =>
        rw [if_neg (bd_no (gO_bd h.1.w hg)).2.1, f_ck_of h2.1.1.b, f_ck_of (show vp_in (pB (some t)) 216 from vp_in_nI (by omega) (by decide)), ep, (z2.2.2 45 t.1 (by omega) (by decide)).1, g1 t.1 (by omega), ev]
        exact ⟨s2, rfl, h2.1, q2, p2⟩
  · rw [if_pos c, sOws_0 V c]
    exact QK.mk hp rfl h (K0.rf s)
end
