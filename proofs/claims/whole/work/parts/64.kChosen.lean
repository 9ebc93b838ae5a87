/-! the step that one would take, and the turns: the class -/
section
theorem tk_st {q p st : Nat} (hp : p < 4) (hst : st < 4) : sStep (sTk q p st) p = st := by
  have h4 : p = 0 ∨ p = 1 ∨ p = 2 ∨ p = 3 := by omega
  unfold sTk sStep
  rcases h4 with rfl | rfl | rfl | rfl <;> omega
theorem tk_ne {q p st j : Nat} (hp : p < 4) (hj : j < 4) (hst : st < 4) (h : j ≠ p) : sStep (sTk q p st) j = sStep q j := by
  have h4 : p = 0 ∨ p = 1 ∨ p = 2 ∨ p = 3 := by omega
  have h5 : j = 0 ∨ j = 1 ∨ j = 2 ∨ j = 3 := by omega
  unfold sTk sStep
  rcases h4 with rfl | rfl | rfl | rfl <;> rcases h5 with rfl | rfl | rfl | rfl <;> omega
theorem tk_self (q p : Nat) (hp : p < 4) : sTk q p (sStep q p) = q := by
  have h4 : p = 0 ∨ p = 1 ∨ p = 2 ∨ p = 3 := by omega
  unfold sTk sStep
  rcases h4 with rfl | rfl | rfl | rfl <;> omega
theorem tk_inj {q p a b : Nat} (hp : p < 4) (ha : a < 4) (hb : b < 4) (h : sTk q p a = sTk q p b) : a = b := by
  rw [← tk_st (q := q) hp ha, h, tk_st hp hb]
theorem tk_pn {q p st pn : Nat} (hpn : pn ≤ 4) (hp : p < pn) (hst : st < 4) (hq : q < 4 ^ pn) : sTk q p st < 4 ^ pn := by
  have h4 : p = 0 ∨ p = 1 ∨ p = 2 ∨ p = 3 := by omega
  have h5 : pn = 1 ∨ pn = 2 ∨ pn = 3 ∨ pn = 4 := by omega
  unfold sTk sStep
  rcases h5 with rfl | rfl | rfl | rfl <;> rcases h4 with rfl | rfl | rfl | rfl <;> omega
theorem vpa_tk {W : Vw} (hp4 : pN W ≤ 4) {q p st : Nat} (hq : vpa W q = true) (hp : p < pN W) (hst : st ≤ sN W p) (h3 : st < 4) : vpa W (sTk q p st) = true := by
  unfold vpa
  rw [Bool.and_eq_true, decide_eq_true_eq, sAll_iff]
  refine ⟨tk_pn hp4 hp h3 (vpa_lt hq), fun j _ hj => ?_⟩
  by_cases e : j = p
  · rw [e, tk_st (by omega) h3]; simpa using hst
  · rw [tk_ne (by omega) (by omega) h3 e]
    simpa using vpa_st hq (show j < pN W by omega)
theorem tk0_bits {q p : Nat} (hq : q < 256) (hp : p < 4) : (nI q &&& (((3 : Int32) <<< ((2 * nI p) &&& 31)) ^^^ (-1))) = nI (sTk q p 0) := by
  have h := tk_bits hq hp (st := 0) (by decide)
  have e : ∀ x : Int32, x ||| (nI 0 <<< ((2 * nI p) &&& 31)) = x := by
    intro x
    have h4 : p = 0 ∨ p = 1 ∨ p = 2 ∨ p = 3 := by omega
    have e0 : nI 0 <<< ((2 * nI p) &&& 31) = 0 := by rcases h4 with rfl | rfl | rfl | rfl <;> decide
    rw [e0, Int32.or_zero]
  rw [e] at h
  exact h
theorem tk_or {q p st : Nat} (hq : q < 256) (hp : p < 4) (hst : st < 4) : nI (sTk q p 0) ||| (nI st <<< ((2 * nI p) &&& 31)) = nI (sTk q p st) := by
  rw [← tk0_bits hq hp]
  exact tk_bits hq hp hst
variable {W : Vw}
def hS (W : Vw) (p q st : Nat) : Int64 := sHasOf W p (sTk q p st)
/-- .. who is staying stays -/
def kCh (W : Vw) (p q : Nat) (stay : Bool) : Nat := if (stay && sStays W p q) = true then q else sTk q p (sWld W p q)
theorem k_chosen_h {p q : Nat} {stay : Bool} : ∀ (k st n b : Nat) (m : Int64) (s : Sg), LK W s → p < pN W → q < 4 ^ pN W → hS W p q b = m → b < st → (∀ j, j < st → hS W p q j ≤ m ∧ FLD s (sTk q p j)) → st + k = sN W p + 1 → k < n →
    ∃ s', f_Tu_chosen_h44 n (nI p) (nI q) (b2i stay) (nI (sTk q p 0)) (nI (sTk q p b)) m (b2i (stay && (decide (sStep q p < st) && decide (hS W p q (sStep q p) = m)))) (nI st) s =
      some (nI (if (stay && (decide (sStep q p < sN W p + 1) && decide (hS W p q (sStep q p) = hS W p q (sWldL W p q k st b m)))) = true then q else sTk q p (sWldL W p q k st b m)), s') ∧ LK W s' ∧ KF s s' ∧ (∀ j, j ≤ sN W p → FLD s' (sTk q p j)) := by
  intro k
  induction k with
  | zero =>
    intro st n b m s h hp hq hm hb hmx hst hn
    obtain ⟨n, rfl⟩ : ∃ m, n = m + 1 := ⟨n - 1, by omega⟩
    have hp4 := h.1.1.p4
    have h3 := (h.1.1.w.2.2.2.1 p hp).2.2
    refine ⟨s, ?_, h, KF.rf s, fun j hj => (hmx j (by omega)).2⟩
    show f_Tu_chosen_b44 _ _ _ _ _ _ _ _ _ _ = _
    unfold f_Tu_chosen_b44 f_Tu_chosen_b124
    rw [f_ck_of h.1.1.b, f_ck_of (vp_in_nI (by omega) (by decide)), nI_clamp (by omega), h.1.1.st hp, if_pos (nI_lt (by omega) (by omega))]
    obtain rfl : st = sN W p + 1 := by omega
    show _ = some (nI (if (stay && (decide (sStep q p < sN W p + 1) && decide (hS W p q (sStep q p) = hS W p q b))) = true then q else sTk q p b), s)
    rw [hm]
    cases hc : (stay && (decide (sStep q p < sN W p + 1) && decide (hS W p q (sStep q p) = m))) with
    | false => rfl
    | true => rfl
  | succ k ih =>
    intro st n b m s h hp hq hm hb hmx hst hn
    obtain ⟨n, rfl⟩ : ∃ m, n = m + 1 := ⟨n - 1, by omega⟩
    have hp4 := h.1.1.p4
    have h256 := p4_le hp4
    have h3 := (h.1.1.w.2.2.2.1 p hp).2.2
    have hq2 := tk_pn hp4 hp (show st < 4 by omega) hq
    obtain ⟨s1, e1, h1, f1, g1⟩ := k_held h hp hq2
    show ∃ s', f_Tu_chosen_b44 _ _ _ _ _ _ _ _ _ _ = some (nI (if (stay && (decide (sStep q p < sN W p + 1) && decide (hS W p q (sStep q p) = hS W p q (if sHasOf W p (sTk q p st) ≤ m then sWldL W p q k (st + 1) b m else sWldL W p q k (st + 1) st (sHasOf W p (sTk q p st)))))) = true then q else sTk q p (if sHasOf W p (sTk q p st) ≤ m then sWldL W p q k (st + 1) b m else sWldL W p q k (st + 1) st (sHasOf W p (sTk q p st)))), s') ∧ _
    unfold f_Tu_chosen_b44
    rw [f_ck_of h.1.1.b, f_ck_of (vp_in_nI (by omega) (by decide)), nI_clamp (by omega), h.1.1.st hp, if_neg (nI_nlt (by omega) (by omega)), tk_or (by omega) (by omega) (by omega), f_bd_of e1]
    unfold f_Tu_chosen_b97 f_Tu_chosen_b118
    rw [nI_1]
    have hself := tk_self q p (by omega)
    have hst0 := sStep_lt q p
    have eqq : nI (sTk q p st) = nI q ↔ sStep q p = st := by
      rw [nI_eq (by omega) (by omega)]
      constructor
      · intro e
        exact tk_inj (q := q) (p := p) (by omega) hst0 (by omega) (hself.trans e.symm)
      · intro e; rw [← e]; exact hself
    by_cases c : sHasOf W p (sTk q p st) ≤ m
    · rw [if_pos c, if_pos ((lg_cmp_le _ _).mpr c)]
      obtain ⟨s2, e2, h2, f2, g2⟩ := ih (st + 1) n b m s1 h1 hp hq hm (by omega) (fun j hj => by
        by_cases e : j = st
        · rw [e]; exact ⟨c, g1⟩
        · exact ⟨(hmx j (by omega)).1, f1.fl (hmx j (by omega)).2⟩) (by omega) (by omega)
      refine ⟨s2, ?_, h2, f1.trans f2, g2⟩
      rw [← e2]
      cases stay with
      | false => rfl
      | true =>
        rw [if_neg (show ¬ b2i true = 0 by decide)]
        by_cases c2 : sStep q p = st
        · rw [if_pos (eqq.mpr c2)]
          by_cases c3 : sHasOf W p (sTk q p st) = m
          · have c4 : hS W p q (sStep q p) = m := by rw [c2]; exact c3
            rw [if_pos ((lg_cmp_eq _ _).mpr c3)]
            have : (true && (decide (sStep q p < st + 1) && decide (hS W p q (sStep q p) = m))) = true := by rw [decide_eq_true c4, decide_eq_true (show sStep q p < st + 1 by omega)]; rfl
            rw [this]; rfl
          · have c4 : ¬ hS W p q (sStep q p) = m := by rw [c2]; exact c3
            rw [if_neg (fun h9 => c3 ((lg_cmp_eq _ _).mp h9))]
            simp [c4]
        · rw [if_neg (fun h9 => c2 (eqq.mp h9))]
          have : decide (sStep q p < st + 1) = decide (sStep q p < st) := by rw [decide_eq_decide]; omega
          rw [this]
    · rw [if_neg c, if_neg (fun h9 => c ((lg_cmp_le _ _).mp h9))]
      have hlt : m < hS W p q st := Int64.not_le.mp c
      obtain ⟨s2, e2, h2, f2, g2⟩ := ih (st + 1) n st (sHasOf W p (sTk q p st)) s1 h1 hp hq rfl (by omega) (fun j hj => by
        by_cases e : j = st
        · rw [e]; exact ⟨Int64.le_refl _, g1⟩
        · exact ⟨Int64.le_trans (hmx j (by omega)).1 (Int64.le_of_lt hlt), f1.fl (hmx j (by omega)).2⟩) (by omega) (by omega)
      refine ⟨s2, ?_, h2, f1.trans f2, g2⟩
      rw [← e2]
      cases stay with
      | false => rfl
      | true =>
        rw [if_neg (show ¬ b2i true = 0 by decide)]
        by_cases c2 : sStep q p = st
        · rw [if_pos (eqq.mpr c2), if_pos ((lg_cmp_eq _ _).mpr rfl)]
          have c4 : hS W p q (sStep q p) = sHasOf W p (sTk q p st) := by rw [c2]; rfl
          have : (true && (decide (sStep q p < st + 1) && decide (hS W p q (sStep q p) = sHasOf W p (sTk q p st)))) = true := by rw [decide_eq_true c4, decide_eq_true (show sStep q p < st + 1 by omega)]; rfl
          rw [this]; rfl
        · rw [if_neg (fun h9 => c2 (eqq.mp h9))]
          have : (true && (decide (sStep q p < st + 1) && decide (hS W p q (sStep q p) = sHasOf W p (sTk q p st)))) = false := by
            by_cases c5 : sStep q p < st
            · have h6 : ¬ hS W p q (sStep q p) = sHasOf W p (sTk q p st) := by
                intro h9
                have h7 := (hmx _ c5).1
                rw [h9] at h7
                exact c h7
              simp [h6]
            · have h6 : ¬ sStep q p < st + 1 := by omega
              simp [h6]
          rw [this]; rfl
theorem k_chosen {s : Sg} (h : LK W s) {p q : Nat} (stay : Bool) (hp : p < pN W) (hq : vpa W q = true) : ∃ s', f_Tu_chosen (nI p) (nI q) (b2i stay) s = some (nI (kCh W p q stay), s') ∧ LK W s' ∧ KF s s' ∧ FLD s' q := by
  have hp4 := h.1.1.p4
  have h256 := p4_le hp4
  have hql := vpa_lt hq
  have hqs := vpa_st hq hp
  have h3 := (h.1.1.w.2.2.2.1 p hp).2.2
  have hst0 := sStep_lt q p
  have hself := tk_self q p (by omega)
  obtain ⟨s1, e1, h1, f1, g1⟩ := k_held h hp (tk_pn hp4 hp (show 0 < 4 by decide) hql)
  obtain ⟨s2, e2, h2, f2, g2⟩ := k_chosen_h (p := p) (q := q) (stay := stay) (sN W p) 1 zl_fl 0 (sHasOf W p (sTk q p 0)) s1 h1 hp hql rfl (by decide) (fun j hj => by
    obtain rfl : j = 0 := by omega
    exact ⟨Int64.le_refl _, g1⟩) (by omega) (zl_fl_lt (by omega))
  refine ⟨s2, ?_, h2, f1.trans f2, by have := g2 (sStep q p) hqs; rw [hself] at this; exact this⟩
  have er : kCh W p q stay = (if (stay && (decide (sStep q p < sN W p + 1) && decide (hS W p q (sStep q p) = hS W p q (sWldL W p q (sN W p) 1 0 (sHasOf W p (sTk q p 0)))))) = true then q else sTk q p (sWldL W p q (sN W p) 1 0 (sHasOf W p (sTk q p 0)))) := by
    unfold kCh sStays hS
    rw [hself]
    have h6 : decide (sStep q p < sN W p + 1) = true := by simp; omega
    rw [h6, Bool.true_and]
    have h7 : decide (sHasOf W p q = sHasOf W p (sTk q p (sWldL W p q (sN W p) 1 0 (sHasOf W p (sTk q p 0))))) = decide (sHasOf W p (sTk q p (sWld W p q)) = sHasOf W p q) := by
      rw [decide_eq_decide]
      exact ⟨fun e => e.symm, fun e => e.symm⟩
    rw [h7]
    rfl
  rw [er, ← e2]
  unfold f_Tu_chosen f_Tu_chosen_b38 f_Tu_chosen_b39
  simp only [tk0_bits (show q < 256 by omega) (show p < 4 by omega), f_ck_of h.1.1.b, f_bd_of e1]
  have eqq : nI q = nI (sTk q p 0) ↔ sStep q p = 0 := by
    rw [nI_eq (by omega) (by have := tk_lt (st := 0) (show q < 256 by omega) (show p < 4 by omega) (by decide); omega)]
    constructor
    · intro e
      exact tk_inj (q := q) (p := p) (by omega) hst0 (by decide) (hself.trans e)
    · intro e; rw [← e]; exact hself.symm
  cases stay with
  | false => rfl
  | true =>
    rw [if_neg (show ¬ b2i true = 0 by decide)]
    by_cases c : sStep q p = 0
    · rw [if_pos (eqq.mpr c)]
      have : (true && (decide (sStep q p < 1) && decide (hS W p q (sStep q p) = sHasOf W p (sTk q p 0)))) = true := by
        have h8 : hS W p q (sStep q p) = sHasOf W p (sTk q p 0) := by rw [c]; rfl
        rw [decide_eq_true h8, decide_eq_true (show sStep q p < 1 by omega)]; rfl
      rw [this]; rfl
    · rw [if_neg (fun h9 => c (eqq.mp h9))]
      have : (true && (decide (sStep q p < 1) && decide (hS W p q (sStep q p) = sHasOf W p (sTk q p 0)))) = false := by
        have : ¬ sStep q p < 1 := by omega
        simp [this]
      rw [this]; rfl
theorem kCh_vpa {s : Sg} (h : LK W s) {p q : Nat} (stay : Bool) (hp : p < pN W) (hq : vpa W q = true) : vpa W (kCh W p q stay) = true := by
  have h3 := (h.1.1.w.2.2.2.1 p hp).2.2
  have hw := sWld_le W p q
  unfold kCh
  split
  · exact hq
  · exact vpa_tk h.1.1.p4 hq hp hw (by omega)
theorem k_settled_h {q : Nat} : ∀ (k p n : Nat) (s : Sg), LK W s → vpa W q = true → p + k = pN W → k < n → ∃ s', f_Tu_isSettled_h2 n (nI q) (nI p) s = some (b2i (sAll (fun p => sStays W p q) k p), s') ∧ LK W s' ∧ KF s s' := by
  intro k
  induction k with
  | zero =>
    intro p n s h hq hp hn
    obtain ⟨n, rfl⟩ : ∃ m, n = m + 1 := ⟨n - 1, by omega⟩
    have hp4 := h.1.1.p4
    refine ⟨s, ?_, h, KF.rf s⟩
    show f_Tu_isSettled_b2 _ _ _ _ = _
    unfold f_Tu_isSettled_b2
    rw [f_ck_of h.1.1.b, h.1.1.pe, if_pos (nI_le (by omega) (by omega))]
    rfl
  | succ k ih =>
    intro p n s h hq hp hn
    obtain ⟨n, rfl⟩ : ∃ m, n = m + 1 := ⟨n - 1, by omega⟩
    have hp4 := h.1.1.p4
    have h256 := p4_le hp4
    have hql := vpa_lt hq
    have hpp : p < pN W := by omega
    obtain ⟨s1, e1, h1, f1, -⟩ := k_chosen h true hpp hq
    have hv := vpa_lt (kCh_vpa h true hpp hq)
    show ∃ s', f_Tu_isSettled_b2 _ _ _ _ = some (b2i (sStays W p q && sAll (fun p => sStays W p q) k (p + 1)), s') ∧ _
    unfold f_Tu_isSettled_b2
    rw [f_ck_of h.1.1.b, h.1.1.pe, if_neg (nI_ge (by omega) (by omega)), f_bd_of (show f_Tu_chosen (nI p) (nI q) 1 s = _ from e1), nI_1]
    have hw := sWld_le W p q
    have h3 := (h.1.1.w.2.2.2.1 p hpp).2.2
    by_cases c : sStays W p q = true
    · have e : kCh W p q true = q := by unfold kCh; rw [c]; rfl
      rw [e, if_pos rfl, c, Bool.true_and]
      obtain ⟨s2, e2, h2, f2⟩ := ih (p + 1) n s1 h1 hq (by omega) (by omega)
      exact ⟨s2, e2, h2, f1.trans f2⟩
    · have c' : sStays W p q = false := by simpa using c
      have e : kCh W p q true = sTk q p (sWld W p q) := by unfold kCh; rw [c']; rfl
      have hne : ¬ sTk q p (sWld W p q) = q := fun h9 => c (by unfold sStays; rw [h9]; simp)
      rw [e] at hv ⊢
      rw [if_neg (nI_neq (by omega) (by omega) hne), c']
      exact ⟨s1, rfl, h1, f1⟩
theorem k_isSettled {s : Sg} (h : LK W s) {q : Nat} (hq : vpa W q = true) : ∃ s', f_Tu_isSettled (nI q) s = some (b2i (sRestS W q), s') ∧ LK W s' ∧ KF s s' := by
  have hp4 := h.1.1.p4
  unfold f_Tu_isSettled
  exact k_settled_h (pN W) 0 zl_fl s h hq (by omega) (zl_fl_lt (by omega))
/-! a round -/
theorem sTrn_v {s : Sg} (h : LK W s) (kp : Nat) : ∀ (k p q : Nat) (ch : Bool), p + k = pN W → vpa W q = true → vpa W (sTrn W kp k p q ch).1 = true ∧ (∀ j, j < 4 → j < p → sStep (sTrn W kp k p q ch).1 j = sStep q j) ∧ ((sTrn W kp k p q ch).2 = false → (sTrn W kp k p q ch).1 = q ∧ ch = false) ∧ ((sTrn W kp k p q ch).2 = true → ch = true ∨ ∃ j, j < 4 ∧ ¬ sStep (sTrn W kp k p q ch).1 j = sStep q j) := by
  have hp4 := h.1.1.p4
  intro k
  induction k with
  | zero => intro p q ch hp hq; exact ⟨hq, fun _ _ _ => rfl, fun h9 => ⟨rfl, h9⟩, fun h9 => Or.inl h9⟩
  | succ k ih =>
    intro p q ch hp hq
    have hpp : p < pN W := by omega
    have hw := sWld_le W p q
    have h3 := (h.1.1.w.2.2.2.1 p hpp).2.2
    have e : sTrn W kp (k + 1) p q ch = if p = kp ∨ sStays W p q = true then sTrn W kp k (p + 1) q ch else sTrn W kp k (p + 1) (sTk q p (sWld W p q)) true := rfl
    rw [e]
    by_cases c : p = kp ∨ sStays W p q = true
    · rw [if_pos c]
      obtain ⟨a1, a2, a3, a4⟩ := ih (p + 1) q ch (by omega) hq
      exact ⟨a1, fun j hj hjp => a2 j hj (by omega), a3, a4⟩
    · rw [if_neg c]
      have c2 : ¬ sStays W p q = true := fun h9 => c (Or.inr h9)
      obtain ⟨a1, a2, a3, a4⟩ := ih (p + 1) (sTk q p (sWld W p q)) true (by omega) (vpa_tk hp4 hq hpp hw (by omega))
      have hd : sStep (sTrn W kp k (p + 1) (sTk q p (sWld W p q)) true).1 p = sWld W p q := by
        rw [a2 p (by omega) (by omega)]
        exact tk_st (by omega) (by omega)
      have hne : ¬ sWld W p q = sStep q p := fun h9 => c2 (by
        unfold sStays
        rw [h9, tk_self q p (by omega)]
        simp)
      refine ⟨a1, fun j hj hjp => ?_, fun h9 => ?_, fun _ => Or.inr ⟨p, by omega, by rw [hd]; exact hne⟩⟩
      · rw [a2 j hj (by omega)]
        exact tk_ne (by omega) hj (by omega) (by omega)
      · have := (a3 h9).2
        cases this
theorem k_turns_in {x2 : Int32} {kp q0 r : Nat} (R : Int32 → Int32 → Int32 → Sg → Option (Int32 × Sg)) : ∀ (k p q n : Nat) (ch : Bool) (s : Sg), LK W s → (∀ p, p < pN W → (nI p = x2 ↔ p = kp)) → p + k = pN W → vpa W q = true → k < n →
    ∃ s', f_Tu_byTurns_h18 R n x2 (nI q) (nI r) (nI q0) (nI p) s = f_Tu_byTurns_b51 R x2 (nI (sTrn W kp k p q ch).1) (nI r) (nI q0) s' ∧ LK W s' ∧ KF s s' ∧ ((sTrn W kp k p q ch).2 = false → ∀ j, p ≤ j → j < p + k → j ≠ kp → FLD s' q) := by
  intro k
  induction k with
  | zero =>
    intro p q n ch s h hk hp hq hn
    obtain ⟨n, rfl⟩ : ∃ m, n = m + 1 := ⟨n - 1, by omega⟩
    have hp4 := h.1.1.p4
    refine ⟨s, ?_, h, KF.rf s, fun _ j h1 h2 _ => by omega⟩
    show f_Tu_byTurns_b18 _ _ _ _ _ _ _ _ = _
    unfold f_Tu_byTurns_b18
    rw [f_ck_of h.1.1.b, h.1.1.pe, if_pos (nI_le (by omega) (by omega))]
    rfl
  | succ k ih =>
    intro p q n ch s h hk hp hq hn
    obtain ⟨n, rfl⟩ : ∃ m, n = m + 1 := ⟨n - 1, by omega⟩
    have hp4 := h.1.1.p4
    have hpp : p < pN W := by omega
    have hw := sWld_le W p q
    have h3 := (h.1.1.w.2.2.2.1 p hpp).2.2
    have e : sTrn W kp (k + 1) p q ch = if p = kp ∨ sStays W p q = true then sTrn W kp k (p + 1) q ch else sTrn W kp k (p + 1) (sTk q p (sWld W p q)) true := rfl
    show ∃ s', f_Tu_byTurns_b18 _ _ _ _ _ _ _ _ = _ ∧ _
    unfold f_Tu_byTurns_b18 f_Tu_byTurns_b45
    rw [f_ck_of h.1.1.b, h.1.1.pe, if_neg (nI_ge (by omega) (by omega)), e]
    by_cases c1 : p = kp
    · rw [if_pos ((hk p hpp).mpr c1), if_pos (Or.inl c1), nI_1]
      obtain ⟨s2, e2, h2, f2, g2⟩ := ih (p + 1) q n ch s h hk (by omega) hq (by omega)
      exact ⟨s2, e2, h2, f2, fun hf j k1 k2 k3 => g2 hf j (by omega) (by omega) k3⟩
    · obtain ⟨s1, e1, h1, f1, g1⟩ := k_chosen h true hpp hq
      rw [if_neg (fun h9 => c1 ((hk p hpp).mp h9)), f_bd_of (show f_Tu_chosen (nI p) (nI q) 1 s = _ from e1), nI_1]
      by_cases c2 : sStays W p q = true
      · have e9 : kCh W p q true = q := by unfold kCh; rw [c2]; rfl
        rw [if_pos (Or.inr c2), e9]
        obtain ⟨s2, e2, h2, f2, g2⟩ := ih (p + 1) q n ch s1 h1 hk (by omega) hq (by omega)
        exact ⟨s2, e2, h2, f1.trans f2, fun _ _ _ _ _ => f2.fl g1⟩
      · have e9 : kCh W p q true = sTk q p (sWld W p q) := by
          have c' : sStays W p q = false := by simpa using c2
          unfold kCh; rw [c']; rfl
        rw [if_neg (fun h9 => h9.elim c1 c2), e9]
        obtain ⟨s2, e2, h2, f2, g2⟩ := ih (p + 1) (sTk q p (sWld W p q)) n true s1 h1 hk (by omega) (vpa_tk hp4 hq hpp hw (by omega)) (by omega)
        refine ⟨s2, e2, h2, f1.trans f2, fun hf => ?_⟩
        have := ((sTrn_v h kp k (p + 1) (sTk q p (sWld W p q)) true (by omega) (vpa_tk hp4 hq hpp hw (by omega))).2.2.1 hf).2
        cases this
theorem k_turns_out {x2 : Int32} {kp : Nat} : ∀ (k r q n : Nat) (s : Sg), LK W s → (∀ p, p < pN W → (nI p = x2 ↔ p = kp)) → r + k = 31 → vpa W q = true → k < n →
    ∃ s', f_Tu_byTurns_h5 n x2 (nI q) (nI r) s = some (oI (sOut W kp k r q), s') ∧ LK W s' ∧ KF s s' ∧ (∀ t, sOut W kp k r q = some t → mI s' 5 8 = nI t.2 ∧ vpa W t.1 = true ∧ ∀ j, j < pN W → j ≠ kp → FLD s' t.1) := by
  intro k
  induction k with
  | zero =>
    intro r q n s h hk hr hq hn
    obtain ⟨n, rfl⟩ : ∃ m, n = m + 1 := ⟨n - 1, by omega⟩
    refine ⟨s, ?_, h, KF.rf s, fun t ht => by cases ht⟩
    show f_Tu_byTurns_b5 _ _ _ _ _ = _
    unfold f_Tu_byTurns_b5
    rw [if_pos (show (30 : Int32) < nI r from nI_lt (show 30 < r by omega) (by omega))]
    rfl
  | succ k ih =>
    intro r q n s h hk hr hq hn
    obtain ⟨n, rfl⟩ : ∃ m, n = m + 1 := ⟨n - 1, by omega⟩
    have hp4 := h.1.1.p4
    have h256 := p4_le hp4
    obtain ⟨s1, e1, h1, f1, g1⟩ := k_turns_in (x2 := x2) (kp := kp) (q0 := q) (r := r) (f_Tu_byTurns_h5 n) (pN W) 0 q zl_fl false s h hk (by omega) hq (zl_fl_lt (by omega))
    obtain ⟨v1, v2, v3, v4⟩ := sTrn_v h kp (pN W) 0 q false (by omega) hq
    have l1 := vpa_lt v1
    have l2 := vpa_lt hq
    have e0 : f_Tu_byTurns_h5 (n + 1) x2 (nI q) (nI r) s = f_Tu_byTurns_b51 (f_Tu_byTurns_h5 n) x2 (nI (sTrn W kp (pN W) 0 q false).1) (nI r) (nI q) s1 := by
      show f_Tu_byTurns_b5 _ _ _ _ _ = _
      unfold f_Tu_byTurns_b5
      rw [if_neg (show ¬ (30 : Int32) < nI r from nI_nlt (show r ≤ 30 by omega) (by decide))]
      exact e1
    rw [e0]
    unfold f_Tu_byTurns_b51 f_Tu_byTurns_b57
    show ∃ s', _ = some (oI (if (sTrn W kp (pN W) 0 q false).2 = true then _ else _), s') ∧ _ ∧ _ ∧ ∀ t, (if (sTrn W kp (pN W) 0 q false).2 = true then _ else _) = some t → _
    by_cases c : (sTrn W kp (pN W) 0 q false).2 = true
    · obtain ⟨j, hj, hne⟩ := (v4 c).resolve_left (by decide)
      have hne2 : ¬ (sTrn W kp (pN W) 0 q false).1 = q := fun h9 => hne (by rw [h9])
      obtain ⟨s2, e2, h2, f2, t2⟩ := ih (r + 1) _ n s1 h1 hk (by omega) v1 (by omega)
      rw [if_neg (nI_neq (by omega) (by omega) hne2), nI_1]
      simp only [if_pos c]
      exact ⟨s2, e2, h2, f1.trans f2, t2⟩
    · have e9 := (v3 (by simpa using c)).1
      have f2 := kf_uI s1 (a := 5) (k := 8) (nI r) (by omega)
      have h2 : LK W (uI s1 5 8 (nI r)) := h1.fr f2 (h1.1.gf ⟨rfl, rfl, fun b k hb => mI_ne _ _ (by omega)⟩)
      simp only [if_neg c]
      rw [if_pos (by rw [e9]), f_ck_of h1.1.1.b]
      refine ⟨_, rfl, h2, f1.trans f2, fun t ht => ?_⟩
      cases ht
      refine ⟨mI_at _ _ _ _, v1, fun j hj hjk => f2.fl ?_⟩
      show FLD s1 (sTrn W kp (pN W) 0 q false).1
      rw [e9]
      exact g1 (by simpa using c) j (by omega) (by omega) hjk
theorem vpa_0 (W : Vw) : vpa W 0 = true := by
  unfold vpa
  rw [Bool.and_eq_true, decide_eq_true_eq, sAll_iff]
  refine ⟨Nat.pow_pos (by decide), fun j _ _ => ?_⟩
  have : sStep 0 j = 0 := by unfold sStep; simp
  rw [this]
  simp
theorem k_byTurns {s : Sg} (h : LK W s) : ∃ s', f_Tu_byTurns 0 (-1) s = some (oI (sFar W 99 0), s') ∧ LK W s' ∧ KF s s' ∧ (∀ t, sFar W 99 0 = some t → mI s' 5 8 = nI t.2 ∧ vpa W t.1 = true ∧ ∀ j, j < pN W → j ≠ 99 → FLD s' t.1) := by
  have hp4 := h.1.1.p4
  have hk : ∀ p, p < pN W → (nI p = (-1 : Int32) ↔ p = 99) := fun p hp => ⟨fun e => by
    have h1 := nI_pos (n := p) (by omega)
    rw [e] at h1
    exact absurd (by decide) h1, fun e => by omega⟩
  unfold f_Tu_byTurns
  exact k_turns_out 30 1 0 zl_fl s h hk (by decide) (vpa_0 W) (zl_fl_lt (by decide))
theorem k_byTurnsK {s : Sg} (h : LK W s) {kp st : Nat} (hkp : kp < pN W) (hst : st ≤ sN W kp) : ∃ s', f_Tu_byTurns (nI st <<< ((2 * nI kp) &&& 31)) (nI kp) s = some (oI (sFar W kp (st * 4 ^ kp)), s') ∧ LK W s' ∧ KF s s' ∧ (∀ t, sFar W kp (st * 4 ^ kp) = some t → mI s' 5 8 = nI t.2 ∧ vpa W t.1 = true ∧ ∀ j, j < pN W → j ≠ kp → FLD s' t.1) := by
  have hp4 := h.1.1.p4
  have h3 := (h.1.1.w.2.2.2.1 kp hkp).2.2
  have hk : ∀ p, p < pN W → (nI p = nI kp ↔ p = kp) := fun p hp => nI_eq (by omega) (by omega)
  have h4 : kp = 0 ∨ kp = 1 ∨ kp = 2 ∨ kp = 3 := by omega
  have he : nI st <<< ((2 * nI kp) &&& 31) = nI (st * 4 ^ kp) := by
    rcases h4 with rfl | rfl | rfl | rfl
    · exact pk_shlN _ 0 (by decide) (by omega)
    · exact pk_shlN _ 2 (by decide) (by omega)
    · exact pk_shlN _ 4 (by decide) (by omega)
    · exact pk_shlN _ 6 (by decide) (by omega)
  have hq : vpa W (st * 4 ^ kp) = true := by
    have h0 := vpa_tk hp4 (vpa_0 W) hkp hst (by omega)
    have e : sTk 0 kp st = st * 4 ^ kp := by unfold sTk sStep; simp
    rw [e] at h0
    exact h0
  unfold f_Tu_byTurns
  rw [he]
  exact k_turns_out 30 1 (st * 4 ^ kp) zl_fl s h hk (by decide) hq (zl_fl_lt (by decide))
end
