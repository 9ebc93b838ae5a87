/-! deals, and what is written: the class -/
section
theorem bdI_sum {k : Nat} {a b : Int32} {A : Nat} (ha : bdI a A) (hb : is_n b 999) (hA : A < 2000000) : bdI (a - b) (A + 999) := by
  obtain ⟨j, hj, rfl⟩ := hb
  exact bdI_mono (bdI_sub ha (bdI_n hj (by decide)) (by omega)) (by omega)
theorem sGoodL_bd {W : Vw} (hW : WV W) (q : Nat) : ∀ (k p A : Nat) (a : Int32), p + k ≤ 4 → A + k * 999 < 1000000 → bdI a A → bdI (sGoodL W q k p a) (A + k * 999) := by
  intro k
  induction k with
  | zero => intro p A a _ _ h; exact bdI_mono h (by omega)
  | succ k ih =>
    intro p A a hp hA h
    have hst := sStep_lt q p
    show bdI (sGoodL W q k (p + 1) (a - W 50 ((4 * p + sStep q p) % 16))) _
    have h1 := bdI_sum (k := 0) h (hW.2.2.2.2.1 ((4 * p + sStep q p) % 16) (by omega)) (by omega)
    exact bdI_mono (ih (p + 1) (A + 999) _ (by omega) (by omega) h1) (by omega)
theorem sGood_bd {W : Vw} (hW : WV W) (q : Nat) : bdI (sGood W q) 110000 := by
  have hp4 := hW.1.2
  unfold sGood
  exact bdI_mono (sGoodL_bd hW q (pN W) 0 99999 _ (by omega) (by omega) (sCut_bd _)) (by omega)
theorem bd_no {v : Int32} (h : bdI v 110000) : ¬ v ≤ (-1073741824 : Int32) ∧ ¬ v = (-1073741824 : Int32) ∧ ¬ v = (1073741824 : Int32) := by
  have h1 := h.1
  have h2 := h.2
  have e1 : (-1073741824 : Int32).toInt = -1073741824 := by decide
  have e2 : (1073741824 : Int32).toInt = 1073741824 := by decide
  refine ⟨fun h9 => ?_, fun h9 => ?_, fun h9 => ?_⟩
  · have := Int32.le_iff_toInt_le.mp h9
    rw [e1] at this
    omega
  · rw [h9, e1] at h1
    omega
  · rw [h9, e2] at h2
    omega
theorem gP_bd {W : Vw} (hW : WV W) {kp q : Nat} {v : Int32} (h : gP W kp q = some v) : bdI v 110000 := by
  unfold gP at h
  cases hf : sFar W kp q with
  | none => rw [hf] at h; cases h
  | some t => rw [hf] at h; cases h; exact sGood_bd hW _
theorem gO_bd {W : Vw} (hW : WV W) {v : Int32} (h : gO W = some v) : bdI v 110000 := gP_bd (kp := 99) (q := 0) hW h
def pG (b : Pk) : Int32 := match b with
  | none => -1073741824
  | some t => t.2
theorem pB_ne {b : Pk} (hb : ∀ t, b = some t → t.1 < 2 ^ 31) : (pB b = -1 ↔ b = none) := by
  cases b with
  | none => exact ⟨fun _ => rfl, fun _ => rfl⟩
  | some t =>
    refine ⟨fun e => ?_, fun e => by cases e⟩
    have h1 : ¬ nI t.1 < 0 := nI_pos (hb t rfl)
    have e' : nI t.1 = -1 := e
    rw [e'] at h1
    exact absurd (by decide) h1
theorem pq_le {g : Int32} (hg : bdI g 110000) {x : Nat} {b : Pk} (h : g ≤ pG b) : pkS (some g) x b = b := by
  unfold pkS
  cases b with
  | none => exact absurd h (bd_no hg).1
  | some t =>
    simp only
    rw [if_neg (show ¬ t.2 < g from Int32.not_lt.mpr h)]
theorem pq_gt {g : Int32} {x : Nat} {b : Pk} (h : ¬ g ≤ pG b) : pkS (some g) x b = some (x, g) := by
  unfold pkS
  cases b with
  | none => rfl
  | some t =>
    simp only
    rw [if_pos (show t.2 < g from Int32.not_le.mp h)]
variable {V : Vw} {s : Sg}
theorem k_reachedAsIs (h : KT (askW V) s) : ∃ s', f_Wk_reachedAsIs s = some ((match gO (askW V) with | none => -1073741824 | some v => v), s') ∧ LK (askW V) s' ∧ K0 s s' := by
  obtain ⟨s1, e1, h1, y1⟩ := k_lookAsk (askWV h) h
  obtain ⟨s2, e2, h2, f2, t2⟩ := k_byTurns h1
  have hne := oI_ne (o := sFar (askW V) 99 0) (fun t ht => vpa_256 h.1.p4 (t2 t ht).2.1)
  unfold f_Wk_reachedAsIs
  rw [f_ck_of h.1.b, f_bd_of e1, f_ck_of h1.1.1.b, f_bd_of e2]
  unfold gO
  cases hf : sFar (askW V) 99 0 with
  | none =>
    rw [hf] at hne
    rw [if_pos (hne.mpr rfl)]
    exact ⟨s2, rfl, h2, y1.z.trans f2.z⟩
  | some t =>
    rw [hf] at hne
    obtain ⟨t8, tv, -⟩ := t2 t hf
    obtain ⟨s3, e3, h3, f3⟩ := k_goodOf h2.1 (vpa_lt tv)
    rw [if_neg (fun h9 => by have := hne.mp h9; cases this), f_ck_of h2.1.1.b, f_bd_of (show f_Wo_goodOf (oI (some t)) s2 = _ from e3)]
    exact ⟨s3, rfl, h2.fr f3 h3, (y1.z.trans f2.z).trans f3.z⟩
theorem k_writing_h {p : Nat} (x2 x3 : Int32) : ∀ (k st n : Nat) (b : Pk) (s : Sg), LK (askW V) s → p < pN (askW V) → (∀ t, b = some t → t.1 < st + 1) → st + k = sN (askW V) p + 1 → k < n →
    ∃ s', f_Wk_writing_h39 n (nI p) x2 x3 (pB b) (pG b) (nI st) s = f_Wk_writing_b110 x2 x3 (pB (pkL (wrO V p) k st b)) (pG (pkL (wrO V p) k st b)) s' ∧ LK (askW V) s' ∧ KF s s' := by
  intro k
  induction k with
  | zero =>
    intro st n b s h hp hb hst hn
    obtain ⟨n, rfl⟩ : ∃ m, n = m + 1 := ⟨n - 1, by omega⟩
    have hp4 := h.1.1.p4
    have h3 := (h.1.1.w.2.2.2.1 p hp).2.2
    refine ⟨s, ?_, h, KF.rf s⟩
    show f_Wk_writing_b39 _ _ _ _ _ _ _ _ = _
    unfold f_Wk_writing_b39
    rw [f_ck_of h.1.1.b, f_ck_of (vp_in_nI (by omega) (by decide)), nI_clamp (by omega), h.1.1.st hp, if_pos (nI_lt (by omega) (by omega))]
    rfl
  | succ k ih =>
    intro st n b s h hp hb hst hn
    obtain ⟨n, rfl⟩ : ∃ m, n = m + 1 := ⟨n - 1, by omega⟩
    have hp4 := h.1.1.p4
    have h3 := (h.1.1.w.2.2.2.1 p hp).2.2
    obtain ⟨s1, e1, h1, f1, t1⟩ := k_byTurnsK h (kp := p) (st := st) hp (by omega)
    have hne := oI_ne (o := sFar (askW V) p (st * 4 ^ p)) (fun t ht => vpa_256 h.1.1.p4 (t1 t ht).2.1)
    have hb2 := pkS_lt (g := wrO V p st) hb
    have hi := fun s1 h1 => ih (st + 1) n (pkS (wrO V p st) st b) s1 h1 hp hb2 (by omega) (by omega)
    show ∃ s', f_Wk_writing_b39 _ _ _ _ _ _ _ _ = f_Wk_writing_b110 x2 x3 (pB (pkL (wrO V p) k (st + 1) (pkS (wrO V p st) st b))) (pG (pkL (wrO V p) k (st + 1) (pkS (wrO V p st) st b))) s' ∧ _
    unfold f_Wk_writing_b39
    rw [f_ck_of h.1.1.b, f_ck_of (vp_in_nI (by omega) (by decide)), nI_clamp (by omega), h.1.1.st hp, if_neg (nI_nlt (by omega) (by omega)), f_bd_of e1]
    unfold f_Wk_writing_b104
    rw [nI_1]
    have eg : wrO V p st = gP (askW V) p (st * 4 ^ p) := rfl
    rw [eg] at hi ⊢
    cases hf : sFar (askW V) p (st * 4 ^ p) with
    | none =>
      have eg2 : gP (askW V) p (st * 4 ^ p) = none := by unfold gP; rw [hf]
      rw [hf] at hne
      rw [if_pos (hne.mpr rfl), eg2]
      rw [eg2] at hi
      obtain ⟨s2, e2, h2, f2⟩ := hi s1 h1
      exact ⟨s2, e2, h2, f1.trans f2⟩
    | some t =>
      have eg2 : gP (askW V) p (st * 4 ^ p) = some (sGood (askW V) t.1) := by unfold gP; rw [hf]
      rw [hf] at hne
      obtain ⟨t8, tv, -⟩ := t1 t hf
      obtain ⟨s2, e2, h2, f2⟩ := k_goodOf h1.1 (vpa_lt tv)
      obtain ⟨s3, e3, h3, f3⟩ := k_goodOf h2 (vpa_lt tv)
      have l2 := h1.fr f2 h2
      have hbd := sGood_bd h.1.1.w t.1
      have e2' : f_Wo_goodOf (oI (some t)) s1 = _ := e2
      have e3' : f_Wo_goodOf (oI (some t)) s2 = _ := e3
      rw [if_neg (fun h9 => by have := hne.mp h9; cases this), f_ck_of h1.1.1.b, f_bd_of e2', eg2]
      rw [eg2] at hi
      by_cases c : sGood (askW V) t.1 ≤ pG b
      · rw [if_pos c]
        rw [pq_le hbd c] at hi ⊢
        obtain ⟨s4, e4, h4, f4⟩ := hi s2 l2
        exact ⟨s4, e4, h4, (f1.trans f2).trans f4⟩
      · rw [if_neg c, f_ck_of h2.1.b, f_bd_of e3']
        rw [pq_gt c] at hi ⊢
        obtain ⟨s4, e4, h4, f4⟩ := hi s3 (l2.fr f3 h3)
        exact ⟨s4, e4, h4, ((f1.trans f2).trans f3).trans f4⟩
theorem kq_writing (h : KT (askW V) s) (hp : PL V s) (x1 x2 : Int32) : QK V s (f_Wk_writing x1 x2 s) (oB (bWriting V x1 x2) (aWriting V x1 x2)) := by
  have hp4 := h.1.p4
  have hn : (xb x1 (pN V) && wi x2 0 1) = false → QK V s (some ((none : Option Int32), s)) (oB (bWriting V x1 x2) (aWriting V x1 x2)) := by
    intro e
    unfold bWriting
    rw [e]
    exact QK.mk hp rfl h (K0.rf s)
  unfold f_Wk_writing
  simp only [f_ck_of h.1.b, f_bd_of (k_isPerson h.1 x1), f_bd_of (k_isWithin (s := s) x2 1), ite10]
  by_cases c1 : xb x1 (pN (askW V)) = true
  · rw [if_pos c1]
    by_cases c2 : wi x2 0 1 = true
    · rw [if_pos c2]
      have hc : (xb x1 (pN V) && wi x2 0 1) = true := by rw [← ak_p, c1, c2]; rfl
      obtain ⟨p, hpp, rfl⟩ := xb_t c1 (by omega)
      have h3 := (h.1.w.2.2.2.1 p hpp).2.2
      obtain ⟨s1, e1, h1, f1⟩ := k_reachedAsIs h
      obtain ⟨s2, e2, h2, f2⟩ := k_writing_h (V := V) (p := p) x2 (match gO (askW V) with | none => -1073741824 | some v => v) (sN (askW V) p + 1) 0 zl_fl none s1 h1 hpp (fun t ht => by cases ht) (by omega) (zl_fl_lt (by omega))
      rw [f_bd_of e1]
      have e2' : f_Wk_writing_h39 zl_fl (nI p) x2 (match gO (askW V) with | none => -1073741824 | some v => v) (-1) (-1073741824) 0 s1 = _ := e2
      rw [e2']
      have hpk := pkL_lt (wrO V p) (sN (askW V) p + 1) 0 none (fun t ht => by cases ht)
      unfold bWriting aWriting wrP
      rw [hc, nI_clamp (by omega), ← ak_s V p, Bool.true_and]
      unfold f_Wk_writing_b110
      cases hk : pkL (wrO V p) (sN (askW V) p + 1) 0 none with
      | none =>
        rw [if_pos (show pB none = -1 from rfl)]
        have : ((gO (askW V)).isSome && (none : Pk).isSome) = false := by simp
        rw [this]
        exact QK.mk hp rfl h2.1 (f1.trans f2.z)
      | some t =>
        have tl := (hpk t hk).1
        rw [if_neg (fun h9 => by have := (pB_ne (b := some t) (fun u hu => by cases hu; omega)).mp h9; cases this)]
        cases hg : gO (askW V) with
        | none =>
          rw [if_pos rfl]
          exact QK.mk hp rfl h2.1 (f1.trans f2.z)
        | some v =>
          rw [if_neg (bd_no (gO_bd h.1.w hg)).2.1]
          show QK V s _ (some (if x2 = 0 then pB (some t) else pM (some t) - v))
          by_cases c3 : x2 = 0
          · rw [if_pos c3, if_pos c3]; exact QK.mk hp rfl h2.1 (f1.trans f2.z)
          · rw [if_neg c3, if_neg c3]; exact QK.mk hp rfl h2.1 (f1.trans f2.z)
    · rw [if_neg c2]; exact hn (by simp [c2])
  · rw [if_neg c1]; exact hn (by rw [ak_p] at c1; simp [c1])
/-! a right, a pledge -/
theorem k_lookRight (h : KT (askW V) s) {th bu : Nat} (hth : th < tN V) (hbu : bu < pN V) {pr : Int32} (hpr : is_n pr 9999) : ∃ s', f_Tu_lookAtRight (nI th) (nI bu) pr s = some ((), s') ∧ LK (dlW V 1 bu th pr (nI (2 ^ bu))) s' ∧ KY s s' := by
  have hp4 := (askWV h).1.2
  obtain ⟨s1, e1, h1, y1, b1⟩ := k_lookDeal (askWV h) h hth hbu (own1_lim bu (by omega)) (Or.inl rfl) hpr
  refine ⟨_, ?_, h1, y1.trans (KY.u5 s1 4 1)⟩
  unfold f_Tu_lookAtRight
  rw [f_ck_of h.1.b, shl_p bu (by omega), f_bd_of e1, f_ck_of b1]
theorem k_lookPledge (h : KT (askW V) s) {th pe : Nat} (hth : th < tN V) (hpe : pe < pN V) {su : Int32} (hsu : is_n su 9999) : ∃ s', f_Tu_lookAtPledge (nI th) (nI pe) su s = some ((), s') ∧ LK (dlW V 2 pe th su 0) s' ∧ KY s s' := by
  obtain ⟨s1, e1, h1, y1, b1⟩ := k_lookDeal (askWV h) h hth hpe (ow := 0) (md := 2) ⟨0, by decide, rfl⟩ (Or.inr rfl) hsu
  refine ⟨_, ?_, h1, y1.trans (KY.u5 s1 4 2)⟩
  unfold f_Tu_lookAtPledge
  rw [f_ck_of h.1.b, f_bd_of e1, f_ck_of b1]
theorem k_answer {W : Vw} (h : LK W s) (h0 : ¬ W 46 50 = 0) (hpos : 0 < pN W) (x : Int32) (wh : Bool) : ∃ s', f_Wk_answerOfDeal x (b2i wh) s = some ((match sFar W 99 0 with | none => none | some t => some (if x = 0 then nI t.1 else if x = 1 then sGood W t.1 else b2i (kOv W t.1 == wh))), s') ∧ LK W s' ∧ KF s s' := by
  obtain ⟨s2, e2, h2, f2, t2⟩ := k_byTurns h
  have hne := oI_ne (o := sFar W 99 0) (fun t ht => vpa_256 h.1.1.p4 (t2 t ht).2.1)
  unfold f_Wk_answerOfDeal
  rw [f_ck_of h.1.1.b, f_bd_of e2]
  cases hf : sFar W 99 0 with
  | none =>
    rw [hf] at hne
    rw [if_pos (hne.mpr rfl)]
    exact ⟨s2, rfl, h2, f2⟩
  | some t =>
    rw [hf] at hne
    obtain ⟨t8, tv, tf⟩ := t2 t hf
    have hp4 := h.1.1.p4
    rw [if_neg (fun h9 => by have := hne.mp h9; cases this)]
    by_cases c0 : x = 0
    · rw [if_pos c0]; simp only [if_pos c0]; exact ⟨s2, rfl, h2, f2⟩
    · rw [if_neg c0]; simp only [if_neg c0]
      by_cases c1 : x = 1
      · obtain ⟨s3, e3, h3, f3⟩ := k_goodOf h2.1 (vpa_lt tv)
        rw [if_pos c1]; simp only [if_pos c1]
        rw [f_ck_of h2.1.1.b, f_bd_of (show f_Wo_goodOf (oI (some t)) s2 = _ from e3)]
        exact ⟨s3, rfl, h2.fr f3 h3, f2.trans f3⟩
      · rw [if_neg c1]; simp only [if_neg c1]
        have e4 := k_goesOver h2 h0 (vpa_lt tv) (tf 0 hpos (by decide))
        rw [f_ck_of h2.1.1.b, f_bd_of (show f_Tu_goesOver (oI (some t)) s2 = _ from e4)]
        refine ⟨s2, ?_, h2, f2⟩
        cases kOv W t.1 <;> cases wh <;> rfl
theorem dl_pN {md : Int32} {pe th : Nat} {su ow : Int32} : pN (dlW V md pe th su ow) = pN V := eqW_pN kW_eq
theorem dl_ask {md : Int32} {pe th : Nat} {su ow : Int32} (h : KT (dlW V md pe th su ow) s) : KT (askW V) s := h.ask kW_eq kW_39
theorem kq_right (h : KT (askW V) s) (hp : PL V s) (x1 x2 x3 x4 : Int32) : QK V s (f_Wk_right x1 x2 x3 x4 s) (oB (bRight V x1 x2 x3 x4) (aRight V x1 x2 x3 x4)) := by
  have hp4 := h.1.p4
  have ht3 := h.1.t3
  have hn : bRightC V x1 x2 x3 x4 = false → QK V s (some ((none : Option Int32), s)) (oB (bRight V x1 x2 x3 x4) (aRight V x1 x2 x3 x4)) := by
    intro e
    unfold bRight
    rw [e]
    exact QK.mk hp rfl h (K0.rf s)
  unfold f_Wk_right
  simp only [f_ck_of h.1.b, f_bd_of (k_isThing h.1 x1), f_bd_of (k_isPerson h.1 x2), f_bd_of (k_isWithin (s := s) x3 9999), f_bd_of (k_isWithin (s := s) x4 2), ite10, ak_p, ak_t]
  rw [ak_p] at hp4
  rw [ak_t] at ht3
  by_cases c1 : xb x1 (tN V) = true
  · rw [if_pos c1]
    by_cases c2 : xb x2 (pN V) = true
    · rw [if_pos c2]
      by_cases c3 : wi x3 0 9999 = true
      · rw [if_pos c3]
        by_cases c4 : wi x4 0 2 = true
        · have hc : bRightC V x1 x2 x3 x4 = true := by unfold bRightC; rw [c1, c2, c3, c4]; rfl
          rw [if_pos c4]
          obtain ⟨th, hth, rfl⟩ := xb_t c1 (by omega)
          obtain ⟨bu, hbu, rfl⟩ := xb_t c2 (by omega)
          obtain ⟨pr, hpr, rfl⟩ := wi_t (m := 9999) c3 (by decide)
          obtain ⟨s1, e1, h1, y1⟩ := k_lookRight h hth hbu ⟨pr, hpr, rfl⟩
          obtain ⟨s2, e2, h2, f2⟩ := k_answer h1 (by rw [show dlW V 1 bu th (nI pr) (nI (2 ^ bu)) 46 50 = 1 from kW_50]; decide) (by rw [dl_pN]; omega) x4 true
          rw [f_bd_of e1, f_ck_of h1.1.1.b, f_bd_of (show f_Wk_answerOfDeal x4 1 s1 = _ from e2)]
          unfold bRight aRight rgW dlA
          rw [hc, nI_clamp (by omega), nI_clamp (by omega), Bool.true_and]
          cases hf : sFar (dlW V 1 bu th (nI pr) (nI (2 ^ bu))) 99 0 with
          | none => exact QK.mk hp rfl (dl_ask h2.1) (y1.z.trans f2.z)
          | some t =>
            refine QK.mk hp ?_ (dl_ask h2.1) (y1.z.trans f2.z)
            have eo : kOv (dlW V 1 bu th (nI pr) (nI (2 ^ bu))) t.1 = sBought (dlW V 1 bu th (nI pr) (nI (2 ^ bu))) t.1 := by
              unfold kOv
              rw [if_neg (by rw [show dlW V 1 bu th (nI pr) (nI (2 ^ bu)) 46 50 = 1 from kW_50]; decide)]
            show some (some (if x4 = 0 then nI t.1 else if x4 = 1 then sGood (dlW V 1 bu th (nI pr) (nI (2 ^ bu))) t.1 else b2i (kOv (dlW V 1 bu th (nI pr) (nI (2 ^ bu))) t.1 == true)), s2) = some (some (if x4 = 0 then nI t.1 else if x4 = 1 then sGood (dlW V 1 bu th (nI pr) (nI (2 ^ bu))) t.1 else b2i (sBought (dlW V 1 bu th (nI pr) (nI (2 ^ bu))) t.1)), s2)
            rw [eo]
            cases sBought (dlW V 1 bu th (nI pr) (nI (2 ^ bu))) t.1 <;> rfl
        · rw [if_neg c4]; exact hn (by unfold bRightC; simp [c4])
      · rw [if_neg c3]; exact hn (by unfold bRightC; simp [c3])
    · rw [if_neg c2]; exact hn (by unfold bRightC; simp [c2])
  · rw [if_neg c1]; exact hn (by unfold bRightC; simp [c1])
theorem kq_lender (h : KT (askW V) s) (hp : PL V s) (x1 x2 x3 x4 : Int32) : QK V s (f_Wk_lender x1 x2 x3 x4 s) (oB (bLend V x1 x2 x3 x4) (aLend V x1 x2 x3 x4)) := by
  have hp4 := h.1.p4
  have ht3 := h.1.t3
  have hn : bLendC V x1 x2 x3 x4 = false → QK V s (some ((none : Option Int32), s)) (oB (bLend V x1 x2 x3 x4) (aLend V x1 x2 x3 x4)) := by
    intro e
    unfold bLend
    rw [e]
    exact QK.mk hp rfl h (K0.rf s)
  unfold f_Wk_lender
  simp only [f_ck_of h.1.b, f_bd_of (k_isThing h.1 x2), f_bd_of (k_isPerson h.1 x1), f_bd_of (k_isWithin (s := s) x3 9999), f_bd_of (k_isWithin (s := s) x4 2), ite10, ak_p, ak_t]
  rw [ak_p] at hp4
  rw [ak_t] at ht3
  by_cases c1 : xb x1 (pN V) = true
  · rw [if_pos c1]
    by_cases c2 : xb x2 (tN V) = true
    · rw [if_pos c2]
      by_cases c3 : wi x3 0 9999 = true
      · rw [if_pos c3]
        by_cases c4 : wi x4 0 2 = true
        · have hc : bLendC V x1 x2 x3 x4 = true := by unfold bLendC; rw [c1, c2, c3, c4]; rfl
          rw [if_pos c4]
          obtain ⟨pe, hpe, rfl⟩ := xb_t c1 (by omega)
          obtain ⟨th, hth, rfl⟩ := xb_t c2 (by omega)
          obtain ⟨su, hsu, rfl⟩ := wi_t (m := 9999) c3 (by decide)
          obtain ⟨s1, e1, h1, y1⟩ := k_lookPledge h hth hpe ⟨su, hsu, rfl⟩
          obtain ⟨s2, e2, h2, f2⟩ := k_answer h1 (by rw [show dlW V 2 pe th (nI su) 0 46 50 = 2 from kW_50]; decide) (by rw [dl_pN]; omega) x4 false
          rw [f_bd_of e1, f_ck_of h1.1.1.b, f_bd_of (show f_Wk_answerOfDeal x4 0 s1 = _ from e2)]
          unfold bLend aLend ldW dlA
          rw [hc, nI_clamp (by omega), nI_clamp (by omega), Bool.true_and]
          cases hf : sFar (dlW V 2 pe th (nI su) 0) 99 0 with
          | none => exact QK.mk hp rfl (dl_ask h2.1) (y1.z.trans f2.z)
          | some t =>
            refine QK.mk hp ?_ (dl_ask h2.1) (y1.z.trans f2.z)
            have eo : kOv (dlW V 2 pe th (nI su) 0) t.1 = !sPaid (dlW V 2 pe th (nI su) 0) t.1 := by
              unfold kOv
              rw [if_pos (show dlW V 2 pe th (nI su) 0 46 50 = 2 from kW_50)]
            show some (some (if x4 = 0 then nI t.1 else if x4 = 1 then sGood (dlW V 2 pe th (nI su) 0) t.1 else b2i (kOv (dlW V 2 pe th (nI su) 0) t.1 == false)), s2) = some (some (if x4 = 0 then nI t.1 else if x4 = 1 then sGood (dlW V 2 pe th (nI su) 0) t.1 else b2i (sPaid (dlW V 2 pe th (nI su) 0) t.1)), s2)
            rw [eo]
            cases sPaid (dlW V 2 pe th (nI su) 0) t.1 <;> rfl
        · rw [if_neg c4]; exact hn (by unfold bLendC; simp [c4])
      · rw [if_neg c3]; exact hn (by unfold bLendC; simp [c3])
    · rw [if_neg c2]; exact hn (by unfold bLendC; simp [c2])
  · rw [if_neg c1]; exact hn (by unfold bLendC; simp [c1])
theorem k_price_h {th bu m : Nat} (x4 : Int32) (hm : m ≤ 60) (hth : th < tN V) (hbu : bu < pN V) : ∀ (k pr n : Nat) (b : Pk) (s : Sg), KT (askW V) s → (∀ t, b = some t → t.1 < pr + 1) → pr + k = m + 1 → k < n →
    ∃ s', f_Wk_rightPrice_h52 n (nI th) (nI bu) (nI m) x4 (pB b) (pG b) (nI pr) s = f_Wk_rightPrice_b121 x4 (pB (pkL (rgO V th bu) k pr b)) (pG (pkL (rgO V th bu) k pr b)) s' ∧ KT (askW V) s' ∧ K0 s s' := by
  intro k
  induction k with
  | zero =>
    intro pr n b s h hb hpr hn
    obtain ⟨n, rfl⟩ : ∃ m, n = m + 1 := ⟨n - 1, by omega⟩
    refine ⟨s, ?_, h, K0.rf s⟩
    show f_Wk_rightPrice_b52 _ _ _ _ _ _ _ _ _ = _
    unfold f_Wk_rightPrice_b52
    rw [if_pos (nI_lt (by omega) (by omega))]
    rfl
  | succ k ih =>
    intro pr n b s h hb hpr hn
    obtain ⟨n, rfl⟩ : ∃ m, n = m + 1 := ⟨n - 1, by omega⟩
    obtain ⟨s0, e0, h0, y0⟩ := k_lookRight h hth hbu (pr := nI pr) ⟨pr, by omega, rfl⟩
    obtain ⟨s1, e1, h1, f1, t1⟩ := k_byTurns h0
    have hne := oI_ne (o := sFar (dlW V 1 bu th (nI pr) (nI (2 ^ bu))) 99 0) (fun t ht => vpa_256 h0.1.1.p4 (t1 t ht).2.1)
    have hb2 := pkS_lt (g := rgO V th bu pr) hb
    have hi := fun s1 h1 => ih (pr + 1) n (pkS (rgO V th bu pr) pr b) s1 h1 hb2 (by omega) (by omega)
    show ∃ s', f_Wk_rightPrice_b52 _ _ _ _ _ _ _ _ _ = f_Wk_rightPrice_b121 x4 (pB (pkL (rgO V th bu) k (pr + 1) (pkS (rgO V th bu pr) pr b))) (pG (pkL (rgO V th bu) k (pr + 1) (pkS (rgO V th bu pr) pr b))) s' ∧ _
    unfold f_Wk_rightPrice_b52
    rw [if_neg (nI_nlt (by omega) (by omega)), f_ck_of h.1.b, f_bd_of e0, f_ck_of h0.1.1.b, f_bd_of e1]
    unfold f_Wk_rightPrice_b115
    rw [nI_1]
    have eg : rgO V th bu pr = gO (dlW V 1 bu th (nI pr) (nI (2 ^ bu))) := rfl
    rw [eg] at hi ⊢
    cases hf : sFar (dlW V 1 bu th (nI pr) (nI (2 ^ bu))) 99 0 with
    | none =>
      have eg2 : gO (dlW V 1 bu th (nI pr) (nI (2 ^ bu))) = none := by unfold gO; rw [hf]
      rw [hf] at hne
      rw [if_pos (hne.mpr rfl), eg2]
      rw [eg2] at hi
      obtain ⟨s2, e2, h2, f2⟩ := hi s1 (dl_ask h1.1)
      exact ⟨s2, e2, h2, (y0.z.trans f1.z).trans f2⟩
    | some t =>
      have eg2 : gO (dlW V 1 bu th (nI pr) (nI (2 ^ bu))) = some (sGood (dlW V 1 bu th (nI pr) (nI (2 ^ bu))) t.1) := by unfold gO; rw [hf]
      rw [hf] at hne
      obtain ⟨t8, tv, -⟩ := t1 t hf
      obtain ⟨s2, e2, h2, f2⟩ := k_goodOf h1.1 (vpa_lt tv)
      obtain ⟨s3, e3, h3, f3⟩ := k_goodOf h2 (vpa_lt tv)
      have hbd := sGood_bd h0.1.1.w t.1
      have e2' : f_Wo_goodOf (oI (some t)) s1 = _ := e2
      have e3' : f_Wo_goodOf (oI (some t)) s2 = _ := e3
      rw [if_neg (fun h9 => by have := hne.mp h9; cases this), f_ck_of h1.1.1.b, f_bd_of e2', eg2]
      rw [eg2] at hi
      by_cases c : sGood (dlW V 1 bu th (nI pr) (nI (2 ^ bu))) t.1 ≤ pG b
      · rw [if_pos c]
        rw [pq_le hbd c] at hi ⊢
        obtain ⟨s4, e4, h4, f4⟩ := hi s2 (dl_ask h2)
        exact ⟨s4, e4, h4, ((y0.z.trans f1.z).trans f2.z).trans f4⟩
      · rw [if_neg c, f_ck_of h2.1.b, f_bd_of e3']
        rw [pq_gt c] at hi ⊢
        obtain ⟨s4, e4, h4, f4⟩ := hi s3 (dl_ask h3)
        exact ⟨s4, e4, h4, (((y0.z.trans f1.z).trans f2.z).trans f3.z).trans f4⟩
theorem kq_price (h : KT (askW V) s) (hp : PL V s) (x1 x2 x3 x4 : Int32) : QK V s (f_Wk_rightPrice x1 x2 x3 x4 s) (oB (bPrice V x1 x2 x3 x4) (aPrice V x1 x2 x3 x4)) := by
  have hp4 := h.1.p4
  have ht3 := h.1.t3
  have hn : bPriceC V x1 x2 x3 x4 = false → QK V s (some ((none : Option Int32), s)) (oB (bPrice V x1 x2 x3 x4) (aPrice V x1 x2 x3 x4)) := by
    intro e
    unfold bPrice
    rw [e]
    exact QK.mk hp rfl h (K0.rf s)
  unfold f_Wk_rightPrice
  simp only [f_ck_of h.1.b, f_bd_of (k_isThing h.1 x1), f_bd_of (k_isPerson h.1 x2), f_bd_of (k_isWithin (s := s) x3 60), f_bd_of (k_isWithin (s := s) x4 1), ite10, ak_p, ak_t]
  rw [ak_p] at hp4
  rw [ak_t] at ht3
  by_cases c1 : xb x1 (tN V) = true
  · rw [if_pos c1]
    by_cases c2 : xb x2 (pN V) = true
    · rw [if_pos c2]
      by_cases c3 : wi x3 0 60 = true
      · rw [if_pos c3]
        by_cases c4 : wi x4 0 1 = true
        · have hc : bPriceC V x1 x2 x3 x4 = true := by unfold bPriceC; rw [c1, c2, c3, c4]; rfl
          rw [if_pos c4]
          obtain ⟨th, hth, rfl⟩ := xb_t c1 (by omega)
          obtain ⟨bu, hbu, rfl⟩ := xb_t c2 (by omega)
          obtain ⟨m, hm, rfl⟩ := wi_t (m := 60) c3 (by decide)
          obtain ⟨s2, e2, h2, f2⟩ := k_price_h (V := V) (th := th) (bu := bu) x4 hm hth hbu (m + 1) 0 zl_fl none s h (fun t ht => by cases ht) (by omega) (zl_fl_lt (by omega))
          have hpk := pkL_lt (rgO V th bu) (m + 1) 0 none (fun t ht => by cases ht)
          have e2' : f_Wk_rightPrice_h52 zl_fl (nI th) (nI bu) (nI m) x4 (-1) (-1073741824) 0 s = _ := e2
          rw [e2']
          unfold bPrice aPrice rpP
          rw [hc, nI_clamp (by omega), nI_clamp (by omega), nI_clamp (by omega), Bool.true_and]
          unfold f_Wk_rightPrice_b121
          cases hk : pkL (rgO V th bu) (m + 1) 0 none with
          | none =>
            rw [if_pos (show pB none = -1 from rfl)]
            exact QK.mk hp rfl h2 f2
          | some t =>
            have tl := (hpk t hk).1
            rw [if_neg (fun h9 => by have := (pB_ne (b := some t) (fun u hu => by cases hu; omega)).mp h9; cases this)]
            show QK V s _ (some (if x4 = 0 then pB (some t) else pM (some t)))
            by_cases c5 : x4 = 0
            · rw [if_pos c5, if_pos c5]; exact QK.mk hp rfl h2 f2
            · rw [if_neg c5, if_neg c5]; exact QK.mk hp rfl h2 f2
        · rw [if_neg c4]; exact hn (by unfold bPriceC; simp [c4])
      · rw [if_neg c3]; exact hn (by unfold bPriceC; simp [c3])
    · rw [if_neg c2]; exact hn (by unfold bPriceC; simp [c2])
  · rw [if_neg c1]; exact hn (by unfold bPriceC; simp [c1])
end
