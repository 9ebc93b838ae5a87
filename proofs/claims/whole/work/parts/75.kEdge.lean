/-! where a thing should change hands: the class -/
section
variable {V W X : Vw} {s : Sg}
def KE (s s' : Sg) : Prop := mN s' = mN s ∧ s'.2.2.1 = s.2.2.1 ∧ ∀ a k, ¬ (17 ≤ a ∧ a ≤ 30) → a ≠ 5 → a ≠ 6 → mI s' a k = mI s a k ∧ mL s' a k = mL s a k
theorem KE.rf (s : Sg) : KE s s := ⟨rfl, rfl, fun _ _ _ _ _ => ⟨rfl, rfl⟩⟩
theorem KE.trans {s0 s1 s2 : Sg} (h : KE s0 s1) (k : KE s1 s2) : KE s0 s2 := ⟨k.1.trans h.1, k.2.1.trans h.2.1, fun b j hb hc hd => ⟨((k.2.2 b j hb hc hd).1).trans (h.2.2 b j hb hc hd).1, ((k.2.2 b j hb hc hd).2).trans (h.2.2 b j hb hc hd).2⟩⟩
theorem K0.e {s s' : Sg} (h : K0 s s') : KE s s' := ⟨h.1, h.2.1, fun a k ha hb _ => h.2.2 a k ha hb⟩
def ageN (s : Sg) : Nat := (mI s 6 5).toNatClampNeg
theorem K0.a {s s' : Sg} (h : K0 s s') : ageN s' = ageN s := by unfold ageN; rw [(h.2.2 6 5 (by omega) (by decide)).1]
theorem k_scale (h : KT W s) (hw : eqW W X) {ln tm : Int32} (h39 : X 46 39 = tm) (h38 : tm = 10 ∨ X 46 38 = ln) (his : is_n tm 40) (hage : ageN s + 1 < 2 ^ 31) : ∃ s', f_Wo_scale ln tm s = some ((), s') ∧ KT X s' ∧ ageN s' = ageN s + 1 ∧ KE s s' := by
  obtain ⟨⟨b, w, t, h7, h6, h4, ho⟩, hr, hg⟩ := h
  have ea : mI (uI (uI s 6 6 ln) 6 7 tm) 6 5 = nI (ageN s) := by rw [mI_ne _ _ (by decide), mI_ne _ _ (by decide)]; exact hg.1
  refine ⟨uI (uI (uI s 6 6 ln) 6 7 tm) 6 5 (mI (uI (uI s 6 6 ln) 6 7 tm) 6 5 + 1), ?_, ?_, ?_, rfl, rfl, fun a k h1 h2 h3 => ⟨?_, rfl⟩⟩
  · unfold f_Wo_scale
    rw [f_ck_of b]
  · have e65 : mI (uI (uI (uI s 6 6 ln) 6 7 tm) 6 5 (mI (uI (uI s 6 6 ln) 6 7 tm) 6 5 + 1)) 6 5 = nI (ageN s + 1) := by rw [mI_at, ea, nI_1]
    have eo : ∀ a k, a ≠ 6 → mI (uI (uI (uI s 6 6 ln) 6 7 tm) 6 5 (mI (uI (uI s 6 6 ln) 6 7 tm) 6 5 + 1)) a k = mI s a k := fun a k ha => by rw [mI_ne _ _ (by omega), mI_ne _ _ (by omega), mI_ne _ _ (by omega)]
    refine ⟨⟨b, WV_eqW w hw, TV_cg (TV_eqW t hw) (fun j hj => funext fun k => eo (7 + j) k (by omega)), ?_, ?_, by rw [h39]; exact his, fun k => (eo 1 k (by decide)).trans (ho k)⟩, ?_, ?_⟩
    · rw [mI_ne _ _ (by decide), mI_at, h39]
    · rw [mI_ne _ _ (by decide), mI_ne _ _ (by decide), mI_at, h39]
      rcases h38 with h38 | h38
      · exact Or.inl h38
      · exact Or.inr h38.symm
    · intro q hq h18
      have hq256 : q < 256 := by
        have := p4_le (WV_eqW w hw).1.2
        omega
      obtain ⟨f, hf1, hf2⟩ := hg.2 q hq256
      rw [eo 18 q (by decide), hf1, e65] at h18
      have hf3 : f ≤ ageN s := hf2
      exact absurd h18 (nI_neq (by omega) (by omega) (by omega))
    · unfold AGE
      rw [e65, nI_clamp (by omega)]
      refine ⟨rfl, fun q hq => ?_⟩
      obtain ⟨f, hf1, hf2⟩ := hg.2 q hq
      rw [eo 18 q (by decide)]
      have hf3 : f ≤ ageN s := hf2
      exact ⟨f, hf1, by omega⟩
  · unfold ageN at ea ⊢
    rw [mI_at, ea, nI_1, nI_clamp (by unfold ageN at hage; omega)]
  · rw [mI_ne _ _ (by omega), mI_ne _ _ (by omega), mI_ne _ _ (by omega)]
theorem ed_LO (hW : WV V) {tm ln : Int32} {th p : Nat} (hp : p < 4) : LO (edW V tm ln th p) 0 := LO_of hW kW_eq kW_la0 (fun t ht => by
  have := own_lim hW t ht
  unfold updF
  split
  · exact ⟨own1_lim p hp, ⟨1, by decide, rfl⟩⟩
  · exact this)
theorem ed_to {tm ln : Int32} {th p p' : Nat} (h : KT (edW V tm ln th p) s) : KT (edW V tm ln th p') s := h.to (X := edW V tm ln th p') (fun b j hb => (kW_no hb).trans (kW_no hb).symm) rfl (Or.inr rfl)
theorem k_lookEd {tm ln : Int32} {th p0 p : Nat} (hW : WV V) (h : KT (edW V tm ln th p0) s) (hth : th < tN V) (hp : p < pN V) : ∃ s1 s3, f_Ow_copyFrom 21 s = some ((), s1) ∧ zl_B s1 ∧ ∃ s2, f_Ow_give 21 (nI th) (nI (2 ^ p)) 1 s1 = some ((), s2) ∧ zl_B s2 ∧ f_Tu_lookAtAsked s2 = some ((), s3) ∧ LK (edW V tm ln th p) s3 ∧ KY s s3 := by
  have hp4 := hW.1.2
  have ht3 := hW.2.1.2
  obtain ⟨s1, e1, f1, g1⟩ := k_copy (a := 21) h.1.b (Or.inl rfl)
  have h1 := (ed_to (p' := p) h).gf (f1.g (Or.inl rfl))
  have f2 := KS.gv (a := 21) (t := th) s1 (nI (2 ^ p)) 1
  have h2 := h1.gf (f2.g (Or.inl rfl))
  have la0 : laid (edW V tm ln th p) 0 (updF (fun t => V 69 t) th (nI (2 ^ p))) (updF (fun t => V 70 t) th 1) 3 := kW_la0
  obtain ⟨s3, e3, h3, a3, z3, y3, -⟩ := k_lookAtAsked h2 (ed_LO hW (by omega)) (fun t ht9 => by
    have ht : t < 3 := by have := h2.1.t3; omega
    rw [(la0 t ht).1, (la0 t ht).2.1]
    unfold updF
    by_cases e : t = th
    · rw [if_pos e, if_pos e, e, mI_at, mI_ne _ _ (by omega), mI_at]; exact ⟨rfl, rfl⟩
    · rw [if_neg e, if_neg e, mI_ne _ _ (by omega), mI_ne _ _ (by omega), mI_ne _ _ (by omega), mI_ne _ _ (by omega), (g1 t ht).1, (g1 t ht).2, h.1.ow ht, h.1.ne ht]
      exact ⟨kW_no (a := 69) rfl, kW_no (a := 70) rfl⟩)
  exact ⟨s1, s3, e1, h1.1.b, _, k_give (a := 21) (t := th) h1.1.b (Or.inl rfl) (by omega) _ _, h2.1.b, e3, ⟨h3, a3, z3.trans kW_50.symm, Or.inl kW_50⟩, ((f1.trans f2).y (Or.inl rfl)).trans y3⟩
theorem k_firstO_h {tm ln : Int32} {th : Nat} (hW : WV V) (hth : th < tN V) : ∀ (k p n : Nat) (b : Pk) (s : Sg), KT (edW V tm ln th 0) s → (∀ t, b = some t → t.1 < p + 1) → p + k = pN V → k < n →
    ∃ s', f_Wk_firstOwner_h19 n (nI th) (pB b) (pG b) (nI p) s = some (pB (pkL (edO V tm ln th) k p b), s') ∧ KT (edW V tm ln th 0) s' ∧ K0 s s' := by
  intro k
  induction k with
  | zero =>
    intro p n b s h hb hp hn
    obtain ⟨n, rfl⟩ : ∃ m, n = m + 1 := ⟨n - 1, by omega⟩
    have hp4 := hW.1.2
    have epe : mI s 7 0 = nI (pN V) := by rw [h.1.pe, eqW_pN (V := V) (V' := edW V tm ln th 0) kW_eq]
    refine ⟨s, ?_, h, K0.rf s⟩
    show f_Wk_firstOwner_b19 _ _ _ _ _ _ = _
    unfold f_Wk_firstOwner_b19
    rw [f_ck_of h.1.b, epe, if_pos (nI_le (by omega) (by omega))]
    rfl
  | succ k ih =>
    intro p n b s h hb hp hn
    obtain ⟨n, rfl⟩ : ∃ m, n = m + 1 := ⟨n - 1, by omega⟩
    have hp4 := hW.1.2
    have epe : mI s 7 0 = nI (pN V) := by rw [h.1.pe, eqW_pN (V := V) (V' := edW V tm ln th 0) kW_eq]
    obtain ⟨s1, s3, e1, b1, s2, e2, b2, e3, h3, y3⟩ := k_lookEd (p := p) hW h hth (by omega)
    obtain ⟨s4, e4, h4, f4, t4⟩ := k_byTurns h3
    have hne := oI_ne (o := sFar (edW V tm ln th p) 99 0) (fun t ht => vpa_256 h3.1.1.p4 (t4 t ht).2.1)
    have hb2 := pkS_lt (g := edO V tm ln th p) hb
    have hi := fun s1 h1 => ih (p + 1) n (pkS (edO V tm ln th p) p b) s1 h1 hb2 (by omega) (by omega)
    show ∃ s', f_Wk_firstOwner_b19 _ _ _ _ _ _ = some (pB (pkL (edO V tm ln th) k (p + 1) (pkS (edO V tm ln th p) p b)), s') ∧ _
    unfold f_Wk_firstOwner_b19
    rw [f_ck_of h.1.b, epe, if_neg (nI_ge (by omega) (by omega)), f_bd_of e1, f_ck_of b1, shl_p p (by omega), f_bd_of e2, f_ck_of b2, f_bd_of e3, f_ck_of h3.1.1.b, f_bd_of e4]
    unfold f_Wk_firstOwner_b114
    rw [nI_1]
    have eg : edO V tm ln th p = gO (edW V tm ln th p) := rfl
    rw [eg] at hi ⊢
    cases hf : sFar (edW V tm ln th p) 99 0 with
    | none =>
      have eg2 : gO (edW V tm ln th p) = none := by unfold gO; rw [hf]
      rw [hf] at hne
      rw [if_pos (hne.mpr rfl), eg2]
      rw [eg2] at hi
      obtain ⟨s5, e5, h5, f5⟩ := hi s4 (ed_to h4.1)
      exact ⟨s5, e5, h5, (y3.z.trans f4.z).trans f5⟩
    | some t =>
      have eg2 : gO (edW V tm ln th p) = some (sGood (edW V tm ln th p) t.1) := by unfold gO; rw [hf]
      rw [hf] at hne
      obtain ⟨t8, tv, -⟩ := t4 t hf
      obtain ⟨s5, e5, h5, f5⟩ := k_goodOf h4.1 (vpa_lt tv)
      obtain ⟨s6, e6, h6, f6⟩ := k_goodOf h5 (vpa_lt tv)
      have hbd := sGood_bd h3.1.1.w t.1
      have e5' : f_Wo_goodOf (oI (some t)) s4 = _ := e5
      have e6' : f_Wo_goodOf (oI (some t)) s5 = _ := e6
      rw [if_neg (fun h9 => by have := hne.mp h9; cases this), f_ck_of h4.1.1.b, f_bd_of e5', eg2]
      rw [eg2] at hi
      by_cases c : sGood (edW V tm ln th p) t.1 ≤ pG b
      · rw [if_pos c]
        rw [pq_le hbd c] at hi ⊢
        obtain ⟨s7, e7, h7, f7⟩ := hi s5 (ed_to h5)
        exact ⟨s7, e7, h7, ((y3.z.trans f4.z).trans f5.z).trans f7⟩
      · rw [if_neg c, f_ck_of h5.1.b, f_bd_of e6']
        rw [pq_gt c] at hi ⊢
        obtain ⟨s7, e7, h7, f7⟩ := hi s6 (ed_to h6)
        exact ⟨s7, e7, h7, (((y3.z.trans f4.z).trans f5.z).trans f6.z).trans f7⟩
theorem k_firstOwner {tm ln : Int32} {th : Nat} (hW : WV V) (h : KT W s) (hw : eqW V W) (hth : th < tN V) (his : is_n tm 40) (hage : ageN s + 1 < 2 ^ 31) : ∃ s', f_Wk_firstOwner ln (nI th) tm s = some (pB (edP V tm ln th), s') ∧ KT (edW V tm ln th 0) s' ∧ KE s s' ∧ ageN s' = ageN s + 1 := by
  have hp4 := hW.1.2
  obtain ⟨s1, e1, h1, a1, k1⟩ := k_scale (X := edW V tm ln th 0) (ln := ln) (tm := tm) h (fun b j hb => (kW_no hb).trans (hw b j hb).symm) kW_39 (Or.inr kW_38) his hage
  obtain ⟨s2, e2, h2, f2⟩ := k_firstO_h (tm := tm) (ln := ln) hW hth (pN V) 0 zl_fl none s1 h1 (fun t ht => by cases ht) (by omega) (zl_fl_lt (by omega))
  refine ⟨s2, ?_, h2, k1.trans f2.e, f2.a.trans a1⟩
  unfold f_Wk_firstOwner
  rw [f_ck_of h.1.b, f_bd_of e1]
  exact e2
theorem k_ed140 (hW : WV V) (h : KT W s) (hw : eqW V W) (hage : ageN s + 1 < 2 ^ 31) (y : Int32) : ∃ s', f_Wk_edge_b140 y s = some (y, s') ∧ KT (askW V) s' ∧ KE s s' ∧ ageN s' = ageN s + 1 := by
  obtain ⟨s1, e1, h1, a1, k1⟩ := k_scale (X := askW V) (ln := -1) (tm := 10) h (fun b j hb => (kW_no hb).trans (hw b j hb).symm) kW_39 (Or.inl rfl) ⟨10, by decide, rfl⟩ hage
  refine ⟨s1, ?_, h1, k1, a1⟩
  unfold f_Wk_edge_b140
  rw [f_ck_of h.1.b, f_bd_of e1]
theorem k_edge_h {th us fa : Nat} {ln x3 : Int32} (hW : WV V) (hth : th < tN V) (up : Bool) (hx3 : x3 = 0 ↔ up = true) (hus : us < 4) (hfa : fa = if up = true then 30 else 10) : ∀ (k far n m : Nat) (W : Vw) (s : Sg), KT W s → eqW V W → far + k = fa + 1 → 1 ≤ far → (0 < k → m = if up = true then 10 + far else 10 - far) → ageN s + k + 1 < 2 ^ 31 → k + 1 < n →
    ∃ s', f_Wk_edge_h69 n ln (nI th) x3 (nI us) (-1) (nI fa) (nI far) s = some (edL V ln th up us k m, s') ∧ KT (askW V) s' ∧ KE s s' ∧ ageN s' ≤ ageN s + k + 1 := by
  have hfa30 : fa ≤ 30 := by rw [hfa]; split <;> omega
  have hu1 : ¬ nI us = -1 := fun e => by
    have h1 : ¬ nI us < 0 := nI_pos (by omega)
    rw [e] at h1
    exact absurd (by decide) h1
  intro k
  induction k with
  | zero =>
    intro far n m W s h hw hf h1 hm hage hn
    obtain ⟨n, rfl⟩ : ∃ m, n = m + 1 := ⟨n - 1, by omega⟩
    obtain ⟨s1, e1, h1', k1, a1⟩ := k_ed140 hW h hw (by omega) (-1)
    refine ⟨s1, ?_, h1', k1, by omega⟩
    show f_Wk_edge_b69 _ _ _ _ _ _ _ _ _ = _
    unfold f_Wk_edge_b69
    rw [if_pos (nI_lt (by omega) (by omega)), e1]
    rfl
  | succ k ih =>
    intro far n m W s h hw hf h1 hm hage hn
    obtain ⟨n, rfl⟩ : ∃ m, n = m + 1 := ⟨n - 1, by omega⟩
    have hm' := hm (by omega)
    have hm40 : m ≤ 40 := by rw [hm']; split <;> omega
    obtain ⟨s1, e1, k1, f1, a1⟩ := k_firstOwner (tm := nI m) (ln := ln) hW h hw hth ⟨m, hm40, rfl⟩ (by omega)
    have hw1 : eqW V (edW V (nI m) ln th 0) := kW_eq
    -- what comes of an owner
    have h105 : ∃ s', f_Wk_edge_b105 (f_Wk_edge_h69 n) ln (nI th) x3 (nI us) (-1) (nI fa) (nI far) (nI m) s = some (edL V ln th up us (k + 1) m, s') ∧ KT (askW V) s' ∧ KE s s' ∧ ageN s' ≤ ageN s + (k + 1) + 1 := by
      have hnext : ∃ s', f_Wk_edge_b134 (f_Wk_edge_h69 n) ln (nI th) x3 (nI us) (-1) (nI fa) (nI far) s1 = some (edL V ln th up us k (if up = true then m + 1 else m - 1), s') ∧ KT (askW V) s' ∧ KE s s' ∧ ageN s' ≤ ageN s + (k + 1) + 1 := by
        obtain ⟨s2, e2, h2, f2, a2⟩ := ih (far + 1) n (if up = true then m + 1 else m - 1) _ s1 k1 hw1 (by omega) (by omega) (fun h0 => by
          rw [hm']
          cases up with
          | true => simp only [if_true]; omega
          | false => simp only [Bool.false_eq_true, if_false]; omega) (by omega) (by omega)
        refine ⟨s2, ?_, h2, f1.trans f2, by omega⟩
        unfold f_Wk_edge_b134
        rw [nI_1]
        exact e2
      unfold f_Wk_edge_b105 edL
      rw [f_ck_of h.1.b, f_bd_of e1]
      have hp4 := hW.1.2
      cases hv : edP V (nI m) ln th with
      | none =>
        rw [if_pos (show pB none = -1 from rfl)]
        exact hnext
      | some t =>
        have tl := edP_lt t hv
        rw [if_neg (fun h9 => by have := (pB_ne (b := some t) (fun u hu => by cases hu; omega)).mp h9; cases this)]
        by_cases c : t.1 = us
        · rw [if_pos (show pB (some t) = nI us by rw [← c]; rfl)]
          show ∃ s', _ = some (if t.1 = us then _ else _, s') ∧ _
          rw [if_pos c]
          exact hnext
        · rw [if_neg (show ¬ pB (some t) = nI us from nI_neq (by omega) (by omega) c)]
          show ∃ s', _ = some (if t.1 = us then _ else _, s') ∧ _
          rw [if_neg c]
          obtain ⟨s2, e2, h2, f2, a2⟩ := k_ed140 hW k1 hw1 (by omega) (nI m)
          refine ⟨s2, ?_, h2, f1.trans f2, by omega⟩
          unfold f_Wk_edge_b134
          obtain ⟨n, rfl⟩ : ∃ m, n = m + 1 := ⟨n - 1, by omega⟩
          have hmn : ¬ nI m = -1 := fun e => by
            have h1 : ¬ nI m < 0 := nI_pos (by omega)
            rw [e] at h1
            exact absurd (by decide) h1
          show f_Wk_edge_b69 _ _ _ _ _ _ _ _ _ = _
          unfold f_Wk_edge_b69
          rw [if_neg hu1, if_neg hmn, e2]
          split <;> rfl
    show ∃ s', f_Wk_edge_b69 _ _ _ _ _ _ _ _ _ = _ ∧ _
    unfold f_Wk_edge_b69
    rw [if_neg (nI_nlt (by omega) (by omega)), if_neg hu1, if_pos rfl]
    cases up with
    | true =>
      have e3 : x3 = 0 := hx3.mpr rfl
      have em : (10 : Int32) + nI far = nI m := by rw [show (10 : Int32) = nI 10 from rfl, nI_add, hm', if_pos rfl]
      rw [if_pos e3, em]
      exact h105
    | false =>
      have e3 : ¬ x3 = 0 := fun h9 => by have := hx3.mp h9; cases this
      have hfar : far ≤ 10 := by rw [if_neg (by decide)] at hfa; omega
      have em : (10 : Int32) - nI far = nI m := by
        rw [hm', if_neg (by decide)]
        have : ∀ f, f ≤ 10 → (10 : Int32) - nI f = nI (10 - f) := by decide
        exact this far hfar
      rw [if_neg e3, em]
      exact h105
theorem kq_edge (h : KT (askW V) s) (hp : PL V s) (x1 x2 x3 : Int32) (hage : ageN s + 40 < 2 ^ 31) : ∃ s', f_Wk_edge x1 x2 x3 s = some (aEdge V x1 x2 x3, s') ∧ KT (askW V) s' ∧ KE s s' ∧ PL V s' ∧ ageN s' ≤ ageN s + 40 := by
  have hW := askWV h
  have ht3 := hW.2.1.2
  have hk8 := hW.2.2.1.2
  have hp4 := hW.1.2
  have hno : bEdgeC V x1 x2 x3 = false ∨ pN V = 0 → ∃ s', (some ((-1 : Int32), s) : Option (Int32 × Sg)) = some (aEdge V x1 x2 x3, s') ∧ KT (askW V) s' ∧ KE s s' ∧ PL V s' ∧ ageN s' ≤ ageN s + 40 := by
    intro e
    refine ⟨s, ?_, h, KE.rf s, hp, by omega⟩
    have ea : aEdge V x1 x2 x3 = -1 := by
      unfold aEdge nB
      rcases e with e | e
      · rw [e, if_neg (by decide)]
      · have ep : edP V 10 x1 x2.toNatClampNeg = none := by unfold edP; rw [e]; rfl
        rw [ep]
        split <;> rfl
    rw [ea]
  unfold f_Wk_edge
  rw [f_ck_of h.1.b, f_bd_of (k_isNobody h.1), ite01, ak_b]
  by_cases cb : bP V = true
  · rw [if_pos cb]
    have hpos : 0 < pN V := by unfold bP at cb; simpa using cb
    have eli : mI s 7 2 = nI (kN V) := by rw [h.1.li, ak_k]
    by_cases c0 : x1 < 0
    · rw [if_pos c0]; exact hno (Or.inl (by unfold bEdgeC xb; simp [c0]))
    · rw [if_neg c0, f_ck_of h.1.b, eli]
      by_cases c1 : nI (kN V) ≤ x1
      · rw [if_pos c1]; exact hno (Or.inl (by unfold bEdgeC xb; simp [c1]))
      · rw [if_neg c1, f_bd_of (k_isThing h.1 x2), ite10, ak_t]
        by_cases c2 : xb x2 (tN V) = true
        · rw [if_pos c2, f_bd_of (k_isWithin (s := s) x3 1), ite10]
          by_cases c3 : wi x3 0 1 = true
          · have hx1 : xb x1 (kN V) = true := by unfold xb; simp [c0, c1]
            have hc : bEdgeC V x1 x2 x3 = true := by unfold bEdgeC; rw [hx1, c2, c3]; rfl
            obtain ⟨th, hth, rfl⟩ := xb_t c2 (by omega)
            obtain ⟨s1, e1, k1, f1, a1⟩ := k_firstOwner (tm := 10) (ln := x1) hW h kW_eq hth ⟨10, by decide, rfl⟩ (by omega)
            have hw1 : eqW V (edW V 10 x1 th 0) := kW_eq
            rw [if_pos c3, f_ck_of h.1.b, f_bd_of e1]
            unfold aEdge nB
            rw [hc, if_pos rfl, nI_clamp (by omega)]
            have fin : ∀ s', KE s s' → PL V s' := fun s' f x hx => by
              rw [(f.2.2 45 x (by omega) (by decide) (by decide)).1]
              exact hp x hx
            unfold f_Wk_edge_b64
            cases hv : edP V 10 x1 th with
            | none =>
              obtain ⟨s2, e2, h2, f2, a2⟩ := k_ed140 hW k1 hw1 (by omega) (-1)
              have hz : ∀ fa : Nat, 1 ≤ fa → fa ≤ 30 → f_Wk_edge_h69 zl_fl x1 (nI th) x3 (-1) (-1) (nI fa) 1 s1 = some (-1, s2) := by
                intro fa h1 h30
                show f_Wk_edge_b69 _ _ _ _ _ _ _ _ _ = _
                unfold f_Wk_edge_b69
                rw [if_neg (show ¬ nI fa < 1 from (nI_nlt (show 1 ≤ fa by omega) (by omega) : ¬ nI fa < nI 1)), if_pos rfl, e2]
              refine ⟨s2, ?_, h2, f1.trans f2, fin _ (f1.trans f2), by omega⟩
              by_cases c5 : x3 = 0
              · rw [if_pos c5]; exact hz 30 (by decide) (by decide)
              · rw [if_neg c5]; exact hz 10 (by decide) (by decide)
            | some t =>
              have tl := edP_lt t hv
              by_cases c5 : x3 = 0
              · obtain ⟨s2, e2, h2, f2, a2⟩ := k_edge_h (th := th) (us := t.1) (fa := 30) (ln := x1) (x3 := x3) hW hth true ⟨fun _ => rfl, fun _ => c5⟩ (by omega) rfl 30 1 zl_fl 11 _ s1 k1 hw1 (by decide) (by decide) (fun _ => rfl) (by omega) (zl_fl_lt (by decide))
                refine ⟨s2, ?_, h2, f1.trans f2, fin _ (f1.trans f2), by omega⟩
                rw [if_pos c5]
                show _ = some (if x3 = 0 then _ else _, s2)
                rw [if_pos c5]
                exact e2
              · obtain ⟨s2, e2, h2, f2, a2⟩ := k_edge_h (th := th) (us := t.1) (fa := 10) (ln := x1) (x3 := x3) hW hth false ⟨fun h9 => absurd h9 c5, fun h9 => by cases h9⟩ (by omega) rfl 10 1 zl_fl 9 _ s1 k1 hw1 (by decide) (by decide) (fun _ => rfl) (by omega) (zl_fl_lt (by decide))
                refine ⟨s2, ?_, h2, f1.trans f2, fin _ (f1.trans f2), by omega⟩
                rw [if_neg c5]
                show _ = some (if x3 = 0 then _ else _, s2)
                rw [if_neg c5]
                exact e2
          · rw [if_neg c3]; exact hno (Or.inl (by unfold bEdgeC; simp [c3]))
        · rw [if_neg c2]; exact hno (Or.inl (by unfold bEdgeC; simp [c2]))
  · rw [if_neg cb]
    exact hno (Or.inr (by unfold bP at cb; simp at cb; omega))
end
