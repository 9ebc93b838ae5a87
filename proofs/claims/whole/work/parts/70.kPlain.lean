/-! plain ownings: the class -/
section
variable {V : Vw} {s : Sg}
theorem ak_d (V : Vw) (x t : Nat) : sDig (askW V) x t = sDig V x t := by unfold sDig; rw [ak_p]
theorem ak_o (V : Vw) : sOws (askW V) = sOws V := sOws_cg kW_eq
theorem k_p2 (h : KB (askW V) s) : mI s 7 0 + 2 = nI (pN (askW V) + 2) := by rw [h.pe, show (2 : Int32) = nI 2 from rfl, nI_add]
theorem k_digit_h (h : KB (askW V) s) {t : Nat} (ht : t < 2 ^ 31) : ∀ (k j n x : Nat), j + k = t → x < 2 ^ 31 → k < n → f_Wk_digitIn_h5 n (nI t) (nI x) (nI j) s = some (nI (sDigL (pN (askW V) + 2) k x), s) := by
  have hp4 := h.p4
  have hne : ¬ nI (pN (askW V) + 2) = 0 := nI_ne0 (by omega) (by omega)
  intro k
  induction k with
  | zero =>
    intro j n x hj hx hn
    obtain ⟨n, rfl⟩ : ∃ m, n = m + 1 := ⟨n - 1, by omega⟩
    show f_Wk_digitIn_b5 _ _ _ _ _ = _
    unfold f_Wk_digitIn_b5
    rw [if_pos (nI_le (by omega) (by omega))]
    unfold f_Wk_digitIn_b29
    rw [f_ck_of h.b, k_p2 h, f_ck_of hne, pk_rem hx (by omega) (by omega)]
    rfl
  | succ k ih =>
    intro j n x hj hx hn
    obtain ⟨n, rfl⟩ : ∃ m, n = m + 1 := ⟨n - 1, by omega⟩
    show f_Wk_digitIn_b5 _ _ _ _ _ = _
    unfold f_Wk_digitIn_b5
    rw [if_neg (nI_ge (by omega) (by omega)), f_ck_of h.b, k_p2 h, f_ck_of hne, pk_div hx (by omega) (by omega), nI_1]
    exact ih (j + 1) n _ (by omega) (Nat.lt_of_le_of_lt (Nat.div_le_self _ _) hx) (by omega)
theorem k_digit (h : KB (askW V) s) {x t : Nat} (hx : x < 2 ^ 31) (ht : t < 4000) : f_Wk_digitIn (nI x) (nI t) s = some (nI (sDig V x t), s) := by
  rw [← ak_d]
  unfold f_Wk_digitIn
  exact k_digit_h h (by omega) t 0 zl_fl x (by omega) hx (zl_fl_lt (by omega))
theorem sPow_0 (b : Nat) : ∀ k, sPow b k 0 = 0 := by
  intro k
  induction k with
  | zero => rfl
  | succ k ih => show sPow b k (0 * b) = 0; rw [Nat.zero_mul]; exact ih
theorem k_count_h15 (h : KB (askW V) s) : ∀ (k t n a : Nat), t + k = tN (askW V) → k < n → f_Wk_plainCount_h15 n (nI a) (nI t) s = some (nI (sPow (pN (askW V) + 2) k a), s) := by
  have ht3 := h.t3
  intro k
  induction k with
  | zero =>
    intro t n a ht hn
    obtain ⟨n, rfl⟩ : ∃ m, n = m + 1 := ⟨n - 1, by omega⟩
    show f_Wk_plainCount_b15 _ _ _ _ = _
    unfold f_Wk_plainCount_b15
    rw [f_ck_of h.b, h.th, if_pos (nI_le (by omega) (by omega))]
    rfl
  | succ k ih =>
    intro t n a ht hn
    obtain ⟨n, rfl⟩ : ∃ m, n = m + 1 := ⟨n - 1, by omega⟩
    show f_Wk_plainCount_b15 _ _ _ _ = _
    unfold f_Wk_plainCount_b15
    rw [f_ck_of h.b, h.th, if_neg (nI_ge (by omega) (by omega)), k_p2 h, nI_mul, nI_1]
    exact ih (t + 1) n _ (by omega) (by omega)
theorem k_plainCount (h : KB (askW V) s) : f_Wk_plainCount s = some (nI (sOws V), s) := by
  have ht3 := h.t3
  rw [← ak_o]
  unfold f_Wk_plainCount f_Wk_plainCount_b12
  simp only [f_ck_of h.b, f_bd_of (k_isNobody h), ite01]
  have e := fun a => k_count_h15 h (tN (askW V)) 0 zl_fl a (by omega) (zl_fl_lt (by omega))
  unfold sOws
  by_cases c : bP (askW V) = true
  · have c' : ¬ pN (askW V) = 0 := by unfold bP at c; simp at c; omega
    rw [if_pos c, if_neg c']
    exact e 1
  · have c' : pN (askW V) = 0 := by unfold bP at c; simp at c; omega
    rw [if_neg c, if_pos c']
    have := e 0
    rw [sPow_0] at this
    exact this
theorem pl_LO (hW : WV V) (x : Nat) : LO (plW V x) 0 := LO_of hW kW_eq kW_la0 (fun t _ => plain_lim hW _)
theorem k_lookPlain_h {x : Nat} (hx : x < 2 ^ 31) : ∀ (k t n : Nat) (s : Sg), KT (askW V) s → (∀ j, j < t → mI s 22 j = owP V (sDig V x j) ∧ mI s 23 j = ndP V (sDig V x j)) → t + k = tN (askW V) → k < n →
    ∃ s' s1, f_Wk_lookAtPlain_h2 n (nI x) (nI t) s = f_Wk_lookAtPlain_b107 s1 ∧ KT (askW V) s1 ∧ KS 21 s s1 ∧ (∀ j, j < tN (askW V) → mI s1 22 j = owP V (sDig V x j) ∧ mI s1 23 j = ndP V (sDig V x j)) ∧ s' = s1 := by
  intro k
  induction k with
  | zero =>
    intro t n s h hj ht hn
    obtain ⟨n, rfl⟩ : ∃ m, n = m + 1 := ⟨n - 1, by omega⟩
    have ht3 := h.1.t3
    refine ⟨s, s, ?_, h, KS.rf 21 s, fun j hj' => hj j (by omega), rfl⟩
    show f_Wk_lookAtPlain_b2 _ _ _ _ = _
    unfold f_Wk_lookAtPlain_b2
    rw [f_ck_of h.1.b, h.1.th, if_pos (nI_le (by omega) (by omega))]
  | succ k ih =>
    intro t n s h hj ht hn
    obtain ⟨n, rfl⟩ : ∃ m, n = m + 1 := ⟨n - 1, by omega⟩
    have ht3 := h.1.t3
    have hp4 := h.1.p4
    have hd : sDig V x t < pN V + 2 := sDigL_lt (by omega) _ _
    have hpp := ak_p V
    have f1 := KS.gv (a := 21) (t := t) s (owP V (sDig V x t)) (ndP V (sDig V x t))
    have h1 := h.gf (f1.g (Or.inl rfl))
    obtain ⟨s', s2, e2, h2, f2, g2, -⟩ := ih (t + 1) n _ h1 (fun j hjt => by
      by_cases e : j = t
      · rw [e, mI_at, mI_ne _ _ (by omega), mI_at]; exact ⟨rfl, rfl⟩
      · rw [mI_ne _ _ (by omega), mI_ne _ _ (by omega), mI_ne _ _ (by omega), mI_ne _ _ (by omega)]
        exact hj j (by omega)) (by omega) (by omega)
    refine ⟨s2, s2, Eq.trans ?_ e2, h2, f1.trans f2, g2, rfl⟩
    have kg := fun ow nd => k_give (a := 21) (t := t) (s := s) h.1.b (Or.inl rfl) (by omega) ow nd
    show f_Wk_lookAtPlain_b2 _ _ _ _ = _
    unfold f_Wk_lookAtPlain_b2 f_Wk_lookAtPlain_b101
    rw [f_ck_of h.1.b, h.1.th, if_neg (nI_ge (by omega) (by omega)), f_bd_of (k_digit h.1 hx (by omega)), f_ck_of h.1.b, h.1.pe, nI_1]
    have e1 := kg (owP V (sDig V x t)) (ndP V (sDig V x t))
    unfold owP ndP at e1 ⊢
    by_cases c1 : sDig V x t < pN V
    · have n2 : ¬ sDig V x t = pN V := by omega
      rw [if_pos c1, if_neg n2] at e1 ⊢
      rw [if_neg (nI_ge (by omega) (by omega)), shl_p _ (by omega), f_bd_of e1]
    · rw [if_neg c1] at e1 ⊢
      rw [if_pos (nI_le (by omega) (by omega))]
      by_cases c2 : sDig V x t = pN V
      · rw [if_pos c2, if_pos c2] at e1 ⊢
        rw [if_pos (by rw [c2, hpp]), f_bd_of (k_all h.1), f_ck_of h.1.b, h.1.pe, hpp, f_bd_of e1]
      · rw [if_neg c2, if_neg c2] at e1 ⊢
        rw [if_neg (nI_neq (by omega) (by omega) (by omega)), f_bd_of e1]
theorem k_lookPlain (h : KT (askW V) s) {x : Nat} (hx : x < 2 ^ 31) : ∃ s', f_Wk_lookAtPlain (nI x) s = some ((), s') ∧ LK (plW V x) s' ∧ KY s s' := by
  have ht3 := h.1.t3
  have hW := askWV h
  obtain ⟨-, s1, e1, h1, f1, g1, -⟩ := k_lookPlain_h hx (tN (askW V)) 0 zl_fl s h (fun j hj => absurd hj (Nat.not_lt_zero _)) (by omega) (zl_fl_lt (by omega))
  have h1' : KT (plW V x) s1 := h1.to (X := plW V x) (fun b j hb => (kW_no hb).trans (kW_no hb).symm) rfl (Or.inl rfl)
  have la0 : laid (plW V x) 0 (fun t => owP V (sDig V x t)) (fun t => ndP V (sDig V x t)) 3 := kW_la0
  obtain ⟨s2, e2, h2, a2, z2, y2, -⟩ := k_lookAtAsked h1' (pl_LO hW x) (fun t ht => by
    have ht9 : t < tN (askW V) := by rw [ak_t, ← eqW_tN (V := V) (V' := plW V x) kW_eq]; exact ht
    rw [(la0 t (by omega)).1, (la0 t (by omega)).2.1]
    exact g1 t ht9)
  refine ⟨s2, ?_, ⟨h2, a2, z2.trans kW_50.symm, Or.inl kW_50⟩, (f1.y (Or.inl rfl)).trans y2⟩
  unfold f_Wk_lookAtPlain
  refine Eq.trans e1 ?_
  unfold f_Wk_lookAtPlain_b107
  rw [f_ck_of h1.1.b, f_bd_of e2]
theorem k_fillPlain_h {to : Nat} (hto : to < sOws V) : ∀ (k x n : Nat) (s : Sg), KT (askW V) s → PL V s → x + k = to + 1 → k < n →
    ∃ s', f_Wk_fillPlain_h2 n (nI to) (nI x) s = some ((), s') ∧ KT (askW V) s' ∧ KQ s s' ∧ PL V s' ∧ (∀ j, x ≤ j → j ≤ to → mI s' 45 j = plv V j) ∧ (∀ j, j < x → mI s' 45 j = mI s 45 j) := by
  intro k
  induction k with
  | zero =>
    intro x n s h hp hx hn
    obtain ⟨n, rfl⟩ : ∃ m, n = m + 1 := ⟨n - 1, by omega⟩
    have ho := sOws_le (askWV h)
    refine ⟨s, ?_, h, KQ.rf s, hp, fun j h1 h2 => by omega, fun _ _ => rfl⟩
    show f_Wk_fillPlain_b2 _ _ _ _ = _
    unfold f_Wk_fillPlain_b2
    rw [if_pos (nI_lt (by omega) (by omega))]
  | succ k ih =>
    intro x n s h hp hx hn
    obtain ⟨n, rfl⟩ : ∃ m, n = m + 1 := ⟨n - 1, by omega⟩
    have ho := sOws_le (askWV h)
    have i216 : vp_in (nI x) 216 := vp_in_nI (by omega) (by decide)
    show ∃ s', f_Wk_fillPlain_b2 _ _ _ _ = _ ∧ _
    unfold f_Wk_fillPlain_b2 f_Wk_fillPlain_b68
    rw [if_neg (nI_nlt (by omega) (by omega)), if_neg (show ¬ (216 : Int32) ≤ nI x from nI_ge (b := 216) (by omega) (by decide)), f_ck_of h.1.b, f_ck_of i216, nI_clamp (by omega), nI_1]
    by_cases c : mI s 45 x = 1073741824
    · rw [if_pos c]
      obtain ⟨s1, e1, h1, y1⟩ := k_lookPlain h (x := x) (by omega)
      obtain ⟨s2, e2, h2, f2, t2⟩ := k_byTurns h1
      have hne := oI_ne (o := sFar (plW V x) 99 0) (fun t ht => vpa_256 h1.1.1.p4 (t2 t ht).2.1)
      rw [f_bd_of e1, f_ck_of h1.1.1.b, f_bd_of e2, f_ck_of h2.1.1.b]
      -- the value is laid down
      have fin : ∀ (s3 : Sg) (v : Int32), KT (plW V x) s3 → K0 s s3 → v = plv V x → ∃ s', f_Wk_fillPlain_b67 (f_Wk_fillPlain_h2 n) (nI to) (nI x) (nI x) v s3 = some ((), s') ∧ KT (askW V) s' ∧ KQ s s' ∧ PL V s' ∧ (∀ j, x ≤ j → j ≤ to → mI s' 45 j = plv V j) ∧ (∀ j, j < x → mI s' 45 j = mI s 45 j) := by
        intro s3 v h3 k3 hv
        have g3 : KG s3 (uI s3 45 x v) := ⟨rfl, rfl, fun b k hb => mI_ne _ _ (by omega)⟩
        have h4 : KT (askW V) (uI s3 45 x v) := (h3.ask kW_eq kW_39).gf g3
        have q4 : KQ s3 (uI s3 45 x v) := ⟨rfl, rfl, fun b k _ _ hb => ⟨mI_ne _ _ (by omega), rfl⟩⟩
        have p4 : PL V (uI s3 45 x v) := fun j hj => by
          by_cases e : j = x
          · rw [e, mI_at]; exact Or.inr hv
          · rw [mI_ne _ _ (by omega), (k3.2.2 45 j (by omega) (by decide)).1]; exact hp j hj
        obtain ⟨s5, e5, h5, q5, p5, g5, b5⟩ := ih (x + 1) n (uI s3 45 x v) h4 p4 (by omega) (by omega)
        refine ⟨s5, ?_, h5, (k3.q.trans q4).trans q5, p5, fun j hj1 hj2 => ?_, fun j hj => ?_⟩
        · unfold f_Wk_fillPlain_b67 f_Wk_fillPlain_b68
          rw [f_ck_of h3.1.b, f_ck_of i216, nI_clamp (by omega), nI_1]
          exact e5
        · by_cases e : j = x
          · rw [e, b5 x (by omega), mI_at]; exact hv
          · exact g5 j (by omega) hj2
        · rw [b5 j (by omega), mI_ne _ _ (by omega), (k3.2.2 45 j (by omega) (by decide)).1]
      have ep : plv V x = (match gO (plW V x) with | none => -1073741824 | some v => v) := rfl
      unfold gO at ep
      cases hf : sFar (plW V x) 99 0 with
      | none =>
        rw [hf] at hne ep
        rw [if_pos (hne.mpr rfl)]
        exact fin s2 _ h2.1 (y1.z.trans f2.z) ep.symm
      | some t =>
        rw [hf] at hne ep
        obtain ⟨t8, tv, -⟩ := t2 t hf
        obtain ⟨s3, e3, h3, f3⟩ := k_goodOf h2.1 (vpa_lt tv)
        rw [if_neg (fun h9 => by have := hne.mp h9; cases this), f_bd_of (show f_Wo_goodOf (oI (some t)) s2 = _ from e3)]
        exact fin s3 _ h3 ((y1.z.trans f2.z).trans f3.z) ep.symm
    · rw [if_neg c]
      obtain ⟨s5, e5, h5, q5, p5, g5, b5⟩ := ih (x + 1) n s h hp (by omega) (by omega)
      refine ⟨s5, e5, h5, q5, p5, fun j hj1 hj2 => ?_, fun j hj => b5 j (by omega)⟩
      by_cases e : j = x
      · rw [e, b5 x (by omega)]; exact (hp x (by omega)).resolve_left c
      · exact g5 j (by omega) hj2
/-- all plain ownings are known -/
def PA (V : Vw) (s : Sg) : Prop := ∀ x, x < sOws V → mI s 45 x = plv V x
theorem k_fillAll (h : KT (askW V) s) (hp : PL V s) (h1 : 0 < sOws V) : ∃ s', f_Wk_fillPlain 0 (nI (sOws V) - 1) s = some ((), s') ∧ KT (askW V) s' ∧ KQ s s' ∧ PL V s' ∧ PA V s' := by
  have ho := sOws_le (askWV h)
  obtain ⟨m, hm⟩ : ∃ m, sOws V = m + 1 := ⟨sOws V - 1, by omega⟩
  obtain ⟨s1, e1, h2, q1, p1, g1, -⟩ := k_fillPlain_h (V := V) (to := m) (by omega) (m + 1) 0 zl_fl s h hp (by omega) (zl_fl_lt (by omega))
  refine ⟨s1, ?_, h2, q1, p1, fun x hx => g1 x (Nat.zero_le _) (by omega)⟩
  unfold f_Wk_fillPlain
  rw [hm, nI_pred]
  exact e1
theorem plv_none {x : Nat} (hW : WV V) : (plv V x = -1073741824 ↔ plO V x = none) ∧ (∀ v, plO V x = some v → plv V x = v ∧ bdI v 110000) := by
  have hb : ∀ v, plO V x = some v → bdI v 110000 := fun v hv => gO_bd (WV_eqW hW kW_eq) hv
  unfold plv
  cases hg : plO V x with
  | none => exact ⟨⟨fun _ => rfl, fun _ => rfl⟩, fun v hv => by cases hv⟩
  | some v =>
    refine ⟨⟨fun h9 => absurd h9 (bd_no (hb v hg)).2.1, fun h9 => by cases h9⟩, fun u hu => ?_⟩
    cases hu
    exact ⟨rfl, hb v hg⟩
theorem kq_reached (h : KT (askW V) s) (hp : PL V s) (x : Int32) : QK V s (f_Wk_reached x s) (oB (bReached V x) (aReached V x)) := by
  have hW := askWV h
  have ho := sOws_le hW
  have hn : xb x (sOws V) = false → QK V s (some ((none : Option Int32), s)) (oB (bReached V x) (aReached V x)) := by
    intro e
    unfold bReached
    rw [e]
    exact QK.mk hp rfl h (K0.rf s)
  unfold f_Wk_reached
  by_cases c0 : x < 0
  · rw [if_pos c0]; exact hn (by unfold xb; simp [c0])
  · rw [if_neg c0, f_ck_of h.1.b, f_bd_of (k_plainCount h.1)]
    obtain ⟨k, hk, rfl⟩ := nI_of c0
    by_cases c1 : k < sOws V
    · rw [if_pos ((nI_ltI hk (by omega)).mpr c1)]
      have hx : xb (nI k) (sOws V) = true := xb_nI c1 (by omega)
      obtain ⟨s1, e1, h1, q1, p1, g1, -⟩ := k_fillPlain_h (V := V) (to := k) c1 1 k zl_fl s h hp (by omega) (zl_fl_lt (by decide))
      have i216 : vp_in (nI k) 216 := vp_in_nI (by omega) (by decide)
      have e1' : f_Wk_fillPlain (nI k) (nI k) s = some ((), s1) := by unfold f_Wk_fillPlain; exact e1
      rw [f_ck_of h.1.b, f_bd_of e1', f_ck_of h1.1.b, f_ck_of i216, f_ck_of i216, nI_clamp (by omega), g1 k (Nat.le_refl _) (Nat.le_refl _)]
      unfold bReached aReached
      rw [hx, nI_clamp (by omega), Bool.true_and]
      obtain ⟨n1, n2⟩ := plv_none (x := k) hW
      cases hg : plO V k with
      | none =>
        rw [if_pos (n1.mpr hg)]
        exact ⟨s1, rfl, h1, q1, p1⟩
      | some v =>
        rw [(n2 v hg).1, if_neg (bd_no (n2 v hg).2).2.1]
        exact ⟨s1, rfl, h1, q1, p1⟩
    · rw [if_neg (fun h9 => c1 ((nI_ltI hk (by omega)).mp h9))]
      exact hn (by
        unfold xb
        have : nI (sOws V) ≤ nI k := nI_le (by omega) hk
        simp [this])
end
