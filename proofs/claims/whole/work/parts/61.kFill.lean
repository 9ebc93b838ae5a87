/-! the class works out a row -/
section
theorem bdI_any (v : Int32) : bdI v 2147483648 := by
  have h1 := Int32.le_toInt v
  have h2 := Int32.toInt_lt v
  unfold bdI
  omega
theorem ten_id (v : Int32) : v.toInt64 * (10 : Int32).toInt64 / 10 = v.toInt64 := by
  have hb := bdL_i (bdI_any v)
  have ht : bdL (10 : Int32).toInt64 10 := by unfold bdL; decide
  have e10 : ((10 : Int32).toInt64).toInt = 10 := by decide
  have e10' : (10 : Int64).toInt = 10 := by decide
  have hm := toInt_mul hb ht (by decide)
  rw [e10] at hm
  apply Int64.toInt_inj.mp
  rw [Int64.toInt_div, hm, e10', Int.mul_tdiv_cancel _ (by decide)]
  have h1 := hb.1
  have h2 := hb.2
  exact bmod_id (by omega) (by omega)
/-- the places of what is told, and of the worths -/
def KG (s s' : Sg) : Prop := mN s' = mN s ∧ s'.2.2.1 = s.2.2.1 ∧ ∀ b k, (b = 1 ∨ (6 ≤ b ∧ b ≤ 18)) → mI s' b k = mI s b k
theorem KB.gf {W : Vw} {s s' : Sg} (h : KB W s) (f : KG s s') : KB W s' := by
  obtain ⟨b, w, t, h7, h6, h4, ho⟩ := h
  refine ⟨⟨by rw [f.1]; exact b.1, by rw [f.2.1]; exact b.2⟩, w, TV_cg t (fun j hj => ?_), ?_, ?_, h4, fun k => (f.2.2 1 k (by omega)).trans (ho k)⟩
  · funext k
    exact f.2.2 (7 + j) k (by omega)
  · rw [f.2.2 6 7 (by omega)]; exact h7
  · rw [f.2.2 6 6 (by omega)]; exact h6
theorem KT.gf {W : Vw} {s s' : Sg} (h : KT W s) (f : KG s s') : KT W s' := by
  refine ⟨h.1.gf f, fun q hq h18 t ht u hu => ?_, ?_⟩
  · rw [f.2.2 18 q (by omega), f.2.2 6 5 (by omega)] at h18
    rw [f.2.2 17 _ (by omega)]
    exact h.2.1 q hq h18 t ht u hu
  · unfold AGE
    rw [f.2.2 6 5 (by omega)]
    refine ⟨h.2.2.1, fun q hq => ?_⟩
    rw [f.2.2 18 q (by omega)]
    exact h.2.2.2 q hq
variable {W : Vw} {s : Sg}
theorem k_in (h : KB W s) {t u l : Nat} (ht : t < 8) (hu : u < 16) (hl : l < kN W) : (mI s 10 l &&& (nI (t * 16 + u) ^^^ (-1))) = 0 ↔ sIn W (nI u) (nI t) l = true := by
  have hk8 := h.k8
  obtain ⟨⟨lp, hlp, e1⟩, ⟨lt, hlt, e2⟩⟩ := h.w.2.2.2.2.2.1 l (by omega)
  obtain ⟨hs1, hs2⟩ := sub_two (lt := lt) (t := t) (lp := lp) (u := u) (by omega) ht (by omega) hu
  unfold sIn
  rw [h.wi hl, e1, e2, show nI lt <<< (4 : Int32) = nI (lt * 16) from pk_shlN _ 4 (by decide) (by omega), nI_or, in_subN (by omega), hs1, Bool.and_eq_true, decide_eq_true_eq, decide_eq_true_eq, in_subN (by omega), in_subN (by omega)]
theorem k_cut_h (h : KB W s) {q t u : Nat} (hv : ∀ j, j < kN W → mL s 19 j = sVal W q j) (ht : t < 8) (hu : u < 16) : ∀ (k l n : Nat) (a : Int64), l + k = kN W → k < n → f_Wo_cutSum_h5 n (nI (t * 16 + u)) a (nI l) s = some (sCut (sSum W (nI u) (nI t) q k l a), s) := by
  have hk8 := h.k8
  intro k
  induction k with
  | zero =>
    intro l n a hl hn
    obtain ⟨n, rfl⟩ : ∃ m, n = m + 1 := ⟨n - 1, by omega⟩
    show f_Wo_cutSum_b5 _ _ _ _ _ = _
    unfold f_Wo_cutSum_b5
    rw [f_ck_of h.b, h.li, if_pos (nI_le (by omega) (by omega))]
    rfl
  | succ k ih =>
    intro l n a hl hn
    obtain ⟨n, rfl⟩ : ∃ m, n = m + 1 := ⟨n - 1, by omega⟩
    have i8 : vp_in (nI l) 8 := vp_in_nI (by omega) (by decide)
    show f_Wo_cutSum_b5 _ _ _ _ _ = some (sCut (sSum W (nI u) (nI t) q k (l + 1) (if sIn W (nI u) (nI t) l = true then a + sVal W q l else a)), s)
    unfold f_Wo_cutSum_b5 f_Wo_cutSum_b44
    rw [f_ck_of h.b, h.li, if_neg (nI_ge (by omega) (by omega)), f_ck_of i8, f_ck_of i8, nI_clamp (by omega), hv l (by omega), nI_1]
    by_cases c : sIn W (nI u) (nI t) l = true
    · rw [if_pos ((k_in h ht hu (by omega)).mpr c), if_pos c]
      exact ih (l + 1) n _ (by omega) (by omega)
    · rw [if_neg (fun h9 => c ((k_in h ht hu (by omega)).mp h9)), if_neg c]
      exact ih (l + 1) n _ (by omega) (by omega)
theorem k_cutSum (h : KB W s) {q t u : Nat} (hv : ∀ j, j < kN W → mL s 19 j = sVal W q j) (ht : t < 8) (hu : u < 16) : f_Wo_cutSum (nI (t * 16 + u)) s = some (sWo W (nI u) (nI t) q, s) := by
  have hk8 := h.k8
  unfold f_Wo_cutSum
  exact k_cut_h h hv ht hu (kN W) 0 zl_fl 0 (by omega) (zl_fl_lt (by omega))
theorem KB.lv (h : KB W s) {l q : Nat} (hl : l < kN W) (hq : q < 4 ^ pN W) : ∃ s', f_Wo_lineValue (nI l) (nI q) s = some (W 68 (256 * l + q), s') ∧ KL s s' := h.cv l hl q hq s h.b (fun _ _ => rfl) (fun _ _ => rfl)
theorem k_fill26 {q : Nat} : ∀ (k l n : Nat) (s : Sg), KB W s → q < 4 ^ pN W → (∀ j, j < l → mL s 19 j = sVal W q j) → l + k = kN W → k < n →
    ∃ s', f_Wo_fill_h26 n (nI q) (nI l) s = f_Wo_fill_b80 (nI q) s' ∧ KB W s' ∧ (∀ j, j < kN W → mL s' 19 j = sVal W q j) ∧ KF s s' ∧ (∀ a k, a = 17 ∨ a = 18 → mI s' a k = mI s a k) := by
  intro k
  induction k with
  | zero =>
    intro l n s h hq hv hl hn
    obtain ⟨n, rfl⟩ : ∃ m, n = m + 1 := ⟨n - 1, by omega⟩
    have hk8 := h.k8
    refine ⟨s, ?_, h, fun j hj => hv j (by omega), KF.rf s, fun _ _ _ => rfl⟩
    show f_Wo_fill_b26 _ _ _ _ = _
    unfold f_Wo_fill_b26
    rw [f_ck_of h.b, h.li, if_pos (nI_le (by omega) (by omega))]
  | succ k ih =>
    intro l n s h hq hv hl hn
    obtain ⟨n, rfl⟩ : ∃ m, n = m + 1 := ⟨n - 1, by omega⟩
    have hk8 := h.k8
    obtain ⟨s1, e1, f1⟩ := h.lv (l := l) (by omega) hq
    have h1 := h.fr f1.f
    have hb73 : ∀ y : Int64, y = sVal W q l → ∃ s', f_Wo_fill_b73 (f_Wo_fill_h26 n) (nI q) (nI l) (nI l) y s1 = f_Wo_fill_b80 (nI q) s' ∧ KB W s' ∧ (∀ j, j < kN W → mL s' 19 j = sVal W q j) ∧ KF s s' ∧ (∀ a k, a = 17 ∨ a = 18 → mI s' a k = mI s a k) := by
      intro y hy
      have f2 := kf_uL s1 (a := 19) (k := l) y (by decide)
      obtain ⟨s2, e2, h2, v2, f3, g3⟩ := ih (l + 1) n (uL s1 19 l y) (h1.fr f2) hq (fun j hj => by
        by_cases e : j = l
        · rw [e, ← hy]; exact zl_up_at _ _ _ _
        · have e3 : mL (uL s1 19 l y) 19 j = mL s1 19 j := zl_up_ne _ _ (by omega)
          rw [e3, (f1.2.2 19 j (by decide)).2]
          exact hv j (by omega)) (by omega) (by omega)
      refine ⟨s2, ?_, h2, v2, (f1.f.trans f2).trans f3, fun a k ha => (g3 a k ha).trans ((f1.2.2 a k (by omega)).1)⟩
      unfold f_Wo_fill_b73
      rw [f_ck_of h1.b, f_ck_of (vp_in_nI (by omega) (by decide)), nI_clamp (by omega), nI_1]
      exact e2
    show ∃ s', f_Wo_fill_b26 _ _ _ _ = _ ∧ _
    unfold f_Wo_fill_b26
    rw [f_ck_of h.b, h.li, if_neg (nI_ge (by omega) (by omega)), f_bd_of e1, f_ck_of h1.b]
    obtain ⟨-, -, -, h7, h6, -⟩ := h1
    rw [h7]
    by_cases c : nI l = mI s1 6 6
    · rw [if_pos c]
      apply hb73
      unfold sVal
      by_cases c10 : W 46 39 = 10
      · rw [if_pos c10, c10]; exact ten_id _
      · rw [if_neg c10, if_pos (by rw [c]; exact h6.resolve_left c10)]
    · rw [if_neg c]
      apply hb73
      unfold sVal
      by_cases c10 : W 46 39 = 10
      · rw [if_pos c10]
      · rw [if_neg c10, if_neg (fun h9 => c (by rw [h9]; exact (h6.resolve_left c10).symm))]
/-- a row that is worked out up to the sets of things below t, and there to the sets of people below u -/
def RwU (W : Vw) (s : Sg) (q t u : Nat) : Prop := ∀ t' u', u' < 2 ^ pN W → (t' < t ∨ (t' = t ∧ u' < u)) → mI s 17 (q * 128 + (t' * 16 + u')) = sWo W (nI u') (nI t') q
theorem k_fill97 {q t : Nat} (ht : t < 2 ^ tN W) (hq : q < 4 ^ pN W) (R82 : Int32 → Int32 → Sg → Option (Unit × Sg)) : ∀ (k u n : Nat) (s : Sg), KB W s → (∀ j, j < kN W → mL s 19 j = sVal W q j) → RwU W s q t u → u + k = 2 ^ pN W → k < n →
    ∃ s', f_Wo_fill_h97 R82 n (nI q) (nI t) (nI u) s = R82 (nI q) (nI (t + 1)) s' ∧ KB W s' ∧ (∀ j, j < kN W → mL s' 19 j = sVal W q j) ∧ RwU W s' q (t + 1) 0 ∧ KF s s' ∧ (∀ k, mI s' 18 k = mI s 18 k) ∧ (∀ k, ¬ (q * 128 ≤ k ∧ k < q * 128 + 128) → mI s' 17 k = mI s 17 k) := by
  intro k
  induction k with
  | zero =>
    intro u n s h hv hr hu hn
    obtain ⟨n, rfl⟩ : ∃ m, n = m + 1 := ⟨n - 1, by omega⟩
    have hp4 := h.p4
    have h16 := p2_le hp4
    refine ⟨s, ?_, h, hv, fun t' u' hu' hc => hr t' u' hu' (by omega), KF.rf s, fun _ => rfl, fun _ _ => rfl⟩
    show f_Wo_fill_b97 _ _ _ _ _ _ = _
    unfold f_Wo_fill_b97 f_Wo_fill_b141
    rw [f_ck_of h.b, h.pe, shl_p _ (by omega), if_pos (nI_le (by omega) (by omega)), nI_1]
  | succ k ih =>
    intro u n s h hv hr hu hn
    obtain ⟨n, rfl⟩ : ∃ m, n = m + 1 := ⟨n - 1, by omega⟩
    have hp4 := h.p4
    have ht3 := h.t3
    have h16 := p2_le hp4
    have h256 := p4_le hp4
    have h8 : 2 ^ tN W ≤ 8 := by
      have h4 : tN W = 0 ∨ tN W = 1 ∨ tN W = 2 ∨ tN W = 3 := by omega
      rcases h4 with e | e | e | e <;> rw [e] <;> decide
    have f2 := kf_uI s (a := 17) (k := q * 128 + (t * 16 + u)) (sWo W (nI u) (nI t) q) (by omega)
    obtain ⟨s2, e2, h2, v2, r2, f3, g3, k3⟩ := ih (u + 1) n (uI s 17 (q * 128 + (t * 16 + u)) (sWo W (nI u) (nI t) q)) (h.fr f2) hv (fun t' u' hu' hc => by
      by_cases e : t' = t ∧ u' = u
      · rw [e.1, e.2]; exact mI_at _ _ _ _
      · rw [mI_ne _ _ (by omega)]
        exact hr t' u' hu' (by omega)) (by omega) (by omega)
    refine ⟨s2, ?_, h2, v2, r2, f2.trans f3, fun k => (g3 k).trans (mI_ne _ _ (by omega)), fun k hk => (k3 k hk).trans (mI_ne _ _ (by omega))⟩
    show f_Wo_fill_b97 _ _ _ _ _ _ = _
    unfold f_Wo_fill_b97
    rw [f_ck_of h.b, h.pe, shl_p _ (by omega), if_neg (nI_ge (by omega) (by omega)), shl4 (by omega), shl7 (by omega), nI_or, or_16 t (by omega) u (by omega), f_bd_of (k_cutSum h hv (by omega) (by omega)), nI_or, or_128 (by omega)]
    simp only [f_ck_of h.b, f_ck_of (vp_in_nI (show q * 128 + (t * 16 + u) < 32768 by omega) (by decide))]
    rw [nI_clamp (by omega), nI_1]
    exact e2
theorem k_fill82 {q : Nat} (hq : q < 4 ^ pN W) : ∀ (k t n : Nat) (s : Sg), KB W s → (∀ j, j < kN W → mL s 19 j = sVal W q j) → RwU W s q t 0 → t + k = 2 ^ tN W → k < n →
    ∃ s', f_Wo_fill_h82 n (nI q) (nI t) s = some ((), s') ∧ KB W s' ∧ RwU W s' q (2 ^ tN W) 0 ∧ KF s s' ∧ (∀ k, mI s' 18 k = mI s 18 k) ∧ (∀ k, ¬ (q * 128 ≤ k ∧ k < q * 128 + 128) → mI s' 17 k = mI s 17 k) := by
  intro k
  induction k with
  | zero =>
    intro t n s h hv hr hu hn
    obtain ⟨n, rfl⟩ : ∃ m, n = m + 1 := ⟨n - 1, by omega⟩
    have ht3 := h.t3
    have h16 := p2_le (show tN W ≤ 4 by omega)
    obtain rfl : t = 2 ^ tN W := by omega
    refine ⟨s, ?_, h, hr, KF.rf s, fun _ => rfl, fun _ _ => rfl⟩
    show f_Wo_fill_b82 _ _ _ _ = _
    unfold f_Wo_fill_b82
    rw [f_ck_of h.b, h.th, shl_p _ (by omega), if_pos (nI_le (by omega) (by omega))]
  | succ k ih =>
    intro t n s h hv hr hu hn
    obtain ⟨n, rfl⟩ : ∃ m, n = m + 1 := ⟨n - 1, by omega⟩
    have hp4 := h.p4
    have ht3 := h.t3
    have h16 := p2_le hp4
    have h16t := p2_le (show tN W ≤ 4 by omega)
    obtain ⟨s1, e1, h1, v1, r1, f1, g1, k1⟩ := k_fill97 (t := t) (by omega) hq (f_Wo_fill_h82 n) (2 ^ pN W) 0 zl_fl s h hv hr (by omega) (zl_fl_lt (by omega))
    obtain ⟨s2, e2, h2, r2, f2, g2, k2⟩ := ih (t + 1) n s1 h1 v1 r1 (by omega) (by omega)
    refine ⟨s2, ?_, h2, r2, f1.trans f2, fun k => (g2 k).trans (g1 k), fun k hk => (k2 k hk).trans (k1 k hk)⟩
    show f_Wo_fill_b82 _ _ _ _ = _
    unfold f_Wo_fill_b82
    rw [f_ck_of h.b, h.th, shl_p _ (by omega), if_neg (nI_ge (by omega) (by omega)), ← e2]
    exact e1
theorem k_fill (h : KT W s) {q : Nat} (hq : q < 4 ^ pN W) : ∃ s', f_Wo_fill (nI q) s = some ((), s') ∧ KT W s' ∧ KF s s' ∧ mI s' 18 q = mI s' 6 5 := by
  obtain ⟨h, hr, hg⟩ := h
  have h256 := p4_le h.p4
  have i256 : vp_in (nI q) 256 := vp_in_nI (by omega) (by decide)
  unfold f_Wo_fill
  rw [f_ck_of h.b, f_ck_of i256, nI_clamp (by omega)]
  by_cases c : mI s 18 q = mI s 6 5
  · rw [if_pos c]
    exact ⟨s, rfl, ⟨h, hr, hg⟩, KF.rf s, c⟩
  · rw [if_neg c, f_ck_of i256]
    have f1 := kf_u18 s q
    have h1 := h.fr f1
    have hk8 := h.k8
    obtain ⟨s2, e2, h2, v2, f2, g2⟩ := k_fill26 (q := q) (kN W) 0 zl_fl _ h1 hq (fun j hj => absurd hj (Nat.not_lt_zero _)) (by omega) (zl_fl_lt (by omega))
    have h16t := p2_le (show tN W ≤ 4 by have := h.t3; omega)
    obtain ⟨s3, e3, h3, r3, f3, g3, k3⟩ := k_fill82 hq (2 ^ tN W) 0 zl_fl s2 h2 v2 (fun t' u' _ hc => by omega) (by omega) (zl_fl_lt (by omega))
    have f := (f1.trans f2).trans f3
    have e65 : mI s3 6 5 = mI s 6 5 := f.i 5 rfl
    have e18 : ∀ j, mI s3 18 j = if j = q then mI s 6 5 else mI s 18 j := by
      intro j
      rw [g3 j, g2 18 j (Or.inr rfl)]
      by_cases e : j = q
      · rw [if_pos e, e]; exact mI_at _ _ _ _
      · rw [if_neg e]; exact mI_ne _ _ (by omega)
    have hg3 : AGE s3 := by
      refine ⟨by rw [e65]; exact hg.1, fun j hj => ?_⟩
      rw [e18 j, e65]
      by_cases e : j = q
      · rw [if_pos e]; exact ⟨_, hg.1, Nat.le_refl _⟩
      · rw [if_neg e]; exact hg.2 j hj
    refine ⟨s3, ?_, ⟨h3, fun q' hq' h18 t ht u hu => ?_, hg3⟩, f, ?_⟩
    · refine Eq.trans e2 ?_
      exact e3
    · by_cases e : q' = q
      · rw [e]
        exact r3 t u hu (Or.inl ht)
      · have h8 : 2 ^ tN W ≤ 8 := by
          have h4 : tN W = 0 ∨ tN W = 1 ∨ tN W = 2 ∨ tN W = 3 := by have := h.t3; omega
          rcases h4 with e | e | e | e <;> rw [e] <;> decide
        have h16 := p2_le h.p4
        rw [e18 q', if_neg e, e65] at h18
        rw [k3 _ (by omega), g2 17 _ (Or.inl rfl), mI_ne _ _ (by omega)]
        exact hr q' hq' h18 t ht u hu
    · rw [e18 q, if_pos rfl, e65]
theorem k_valueOf (h : KT W s) {q t u : Nat} (hq : q < 4 ^ pN W) (ht : t < 2 ^ tN W) (hu : u < 2 ^ pN W) : ∃ s', f_Wo_valueOf (nI u) (nI t) (nI q) s = some (sWo W (nI u) (nI t) q, s') ∧ KT W s' ∧ KF s s' := by
  have h256 := p4_le h.1.p4
  have h16 := p2_le h.1.p4
  have h8 : 2 ^ tN W ≤ 8 := by
    have h4 : tN W = 0 ∨ tN W = 1 ∨ tN W = 2 ∨ tN W = 3 := by have := h.1.t3; omega
    rcases h4 with e | e | e | e <;> rw [e] <;> decide
  obtain ⟨s1, e1, h1, f1, g1⟩ := k_fill h hq
  refine ⟨s1, ?_, h1, f1⟩
  unfold f_Wo_valueOf
  have e9 : ((nI q <<< ((7 : Int32) &&& 31)) ||| (nI t <<< ((4 : Int32) &&& 31))) ||| nI u = nI (q * 128 + (t * 16 + u)) := by
    rw [shl4 (by omega), shl7 (by omega), nI_or, nI_or, Nat.or_assoc, or_16 t (by omega) u (by omega), or_128 (by omega)]
  simp only [f_ck_of h.1.b, f_bd_of e1, f_ck_of h1.1.b, e9, f_ck_of (vp_in_nI (show q * 128 + (t * 16 + u) < 32768 by omega) (by decide))]
  rw [nI_clamp (by omega), h1.2.1 q hq g1 t ht u hu]
theorem k_good_h {q : Nat} (h : KB W s) (hq : q < 256) : ∀ (k p n : Nat) (a : Int32), p + k = pN W → k < n → f_Wo_goodOf_h26 n (nI q) a (nI p) s = some (sGoodL W q k p a, s) := by
  have hp4 := h.p4
  intro k
  induction k with
  | zero =>
    intro p n a hp hn
    obtain ⟨n, rfl⟩ : ∃ m, n = m + 1 := ⟨n - 1, by omega⟩
    show f_Wo_goodOf_b26 _ _ _ _ _ = _
    unfold f_Wo_goodOf_b26
    rw [f_ck_of h.b, h.pe, if_pos (nI_le (by omega) (by omega))]
    rfl
  | succ k ih =>
    intro p n a hp hn
    obtain ⟨n, rfl⟩ : ∃ m, n = m + 1 := ⟨n - 1, by omega⟩
    have hst := sStep_lt q p
    have e4 : nI p * 4 + nI (sStep q p) = nI (4 * p + sStep q p) := by rw [show (4 : Int32) = nI 4 from rfl, nI_mul, nI_add, Nat.mul_comm]
    have e16 : (4 * p + sStep q p) % 16 = 4 * p + sStep q p := Nat.mod_eq_of_lt (by omega)
    show f_Wo_goodOf_b26 _ _ _ _ _ = _
    unfold f_Wo_goodOf_b26
    rw [f_ck_of h.b, h.pe, if_neg (nI_ge (by omega) (by omega)), f_bd_of (k_stepIn hq (by omega)), f_ck_of h.b, e4, f_ck_of (vp_in_nI (by omega) (by decide)), nI_clamp (by omega), h.co (by omega), nI_1, ← e16]
    exact ih (p + 1) n _ (by omega) (by omega)
theorem k_goodOf (h : KT W s) {q : Nat} (hq : q < 4 ^ pN W) : ∃ s', f_Wo_goodOf (nI q) s = some (sGood W q, s') ∧ KT W s' ∧ KF s s' := by
  have hp4 := h.1.p4
  have ht3 := h.1.t3
  have h1p : 1 ≤ 2 ^ pN W := Nat.one_le_two_pow
  have h1t : 1 ≤ 2 ^ tN W := Nat.one_le_two_pow
  obtain ⟨s1, e1, h1, f1⟩ := k_valueOf h hq (t := 2 ^ tN W - 1) (u := 2 ^ pN W - 1) (by omega) (by omega)
  refine ⟨s1, ?_, h1, f1⟩
  have e9 : ((1 : Int32) <<< ((mI s 7 1) &&& 31)) - 1 = nI (2 ^ tN W - 1) := by
    rw [h.1.th, shl_p _ (by omega)]
    obtain ⟨m, hm⟩ : ∃ m, 2 ^ tN W = m + 1 := ⟨2 ^ tN W - 1, by omega⟩
    rw [hm, nI_pred]; rfl
  unfold f_Wo_goodOf
  simp only [f_ck_of h.1.b, f_bd_of (k_all h.1), e9, f_bd_of e1]
  exact k_good_h h1.1 (by have := p4_le hp4; omega) (pN W) 0 zl_fl _ (by omega) (zl_fl_lt (by omega))
end
