/-! what is told: the class -/
section
variable {V V' : Vw} {s s' : Sg}
/-- the places that what is told of owning does not touch -/
def vSm (V V' : Vw) : Prop := ∀ b j, ((b = 46 ∧ (j = 10 ∨ j = 11 ∨ j = 12)) ∨ b = 49 ∨ b = 50 ∨ b = 51 ∨ b = 52 ∨ b = 68) → V' b j = V b j
theorem vSm_pN (h : vSm V V') : pN V' = pN V := by unfold pN; rw [h 46 10 (by omega)]
theorem vSm_tN (h : vSm V V') : tN V' = tN V := by unfold tN; rw [h 46 11 (by omega)]
theorem vSm_kN (h : vSm V V') : kN V' = kN V := by unfold kN; rw [h 46 12 (by omega)]
def tvO (V : Vw) (g : Nat → Nat → Int32) : Prop := ∀ t, t < 3 → g 6 t = V 69 t ∧ g 7 t = V 70 t ∧ ((V 73 t = 0 ∧ g 9 t = 0) ∨ (V 73 t = 1 ∧ g 8 t = V 71 t ∧ g 9 t = V 72 t ∧ ¬ V 72 t = 0))
theorem TV_new {g g' : Nat → Nat → Int32} (h : TV V g) (hv : vSm V V') (hg : ∀ j k, ((j = 0 ∧ k < 3) ∨ (1 ≤ j ∧ j ≤ 5)) → g' j k = g j k) (h0 : g' 0 3 = V' 46 46 ∧ g' 0 4 = V' 46 47 ∧ g' 0 5 = V' 46 45) (h5 : tvO V' g') : TV V' g' := by
  obtain ⟨⟨a0, a1, a2, -, -, -⟩, b, c, d, -, f⟩ := h
  refine ⟨⟨?_, ?_, ?_, h0.1, h0.2.1, h0.2.2⟩, ?_, ?_, ?_, h5, ?_⟩
  · rw [hg 0 0 (by omega), hv 46 10 (by omega)]; exact a0
  · rw [hg 0 1 (by omega), hv 46 11 (by omega)]; exact a1
  · rw [hg 0 2 (by omega), hv 46 12 (by omega)]; exact a2
  · rw [vSm_pN hv]; intro p hp; rw [hg 1 p (by omega), hv 49 p (by omega)]; exact b p hp
  · intro k hk; rw [hg 2 k (by omega), hv 50 k (by omega)]; exact c k hk
  · rw [vSm_kN hv]; intro l hl; rw [hg 3 l (by omega), hv 51 l (by omega), hv 52 l (by omega)]; exact d l hl
  · have e4 : g' 4 = g 4 := funext fun k => hg 4 k (by omega)
    have e5 : g' 5 = g 5 := funext fun k => hg 5 k (by omega)
    rw [e4, e5]
    unfold CV at f ⊢
    rw [vSm_kN hv, vSm_pN hv]
    intro l hl q hq s hb h1 h2
    rw [hv 68 _ (by omega)]
    exact f l hl q hq s hb h1 h2
theorem sWo_new (hv : vSm V V') (x1 x2 : Int32) (q : Nat) : sWo (askW V') x1 x2 q = sWo (askW V) x1 x2 q := by
  have e1 : ∀ l, sVal (askW V') q l = sVal (askW V) q l := by
    intro l
    unfold sVal
    have a1 : askW V' 46 39 = 10 := kW_39
    have a2 : askW V 46 39 = 10 := kW_39
    have a3 : askW V' 68 (256 * l + q) = askW V 68 (256 * l + q) := (kW_no rfl : askW V' 68 _ = V' 68 _).trans ((hv 68 _ (by omega)).trans (kW_no rfl : askW V 68 _ = V 68 _).symm)
    rw [a1, a2, a3, if_pos rfl, if_pos rfl]
  have e2 : ∀ l, sIn (askW V') x1 x2 l = sIn (askW V) x1 x2 l := by
    intro l
    unfold sIn
    have a1 : askW V' 51 l = askW V 51 l := (kW_no rfl : askW V' 51 _ = V' 51 _).trans ((hv 51 _ (by omega)).trans (kW_no rfl : askW V 51 _ = V 51 _).symm)
    have a2 : askW V' 52 l = askW V 52 l := (kW_no rfl : askW V' 52 _ = V' 52 _).trans ((hv 52 _ (by omega)).trans (kW_no rfl : askW V 52 _ = V 52 _).symm)
    rw [a1, a2]
  have e3 : ∀ (k l : Nat) (a : Int64), sSum (askW V') x1 x2 q k l a = sSum (askW V) x1 x2 q k l a := by
    intro k
    induction k with
    | zero => intro l a; rfl
    | succ k ih =>
      intro l a
      show sSum (askW V') x1 x2 q k (l + 1) (if sIn (askW V') x1 x2 l = true then a + sVal (askW V') q l else a) = sSum (askW V) x1 x2 q k (l + 1) (if sIn (askW V) x1 x2 l = true then a + sVal (askW V) q l else a)
      rw [e2, e1, ih]
  unfold sWo
  rw [ak_k, ak_k, vSm_kN hv, e3]
theorem TV_ask {g : Nat → Nat → Int32} : TV (askW V) g ↔ TV V g := ⟨fun h => TV_eqW h (fun b j hb => (kW_no hb).symm), fun h => TV_eqW h (fun b j hb => kW_no hb)⟩
theorem KT_new (h : KT (askW V) s) (hW' : WV V') (hv : vSm V V') (hn : mN s' = mN s ∧ s'.2.2.1 = s.2.2.1)
    (hf : ∀ b k, (b = 1 ∨ b = 6 ∨ (8 ≤ b ∧ b ≤ 12) ∨ b = 17 ∨ b = 18 ∨ (b = 7 ∧ k < 3)) → mI s' b k = mI s b k)
    (h0 : mI s' 7 3 = V' 46 46 ∧ mI s' 7 4 = V' 46 47 ∧ mI s' 7 5 = V' 46 45) (h5 : tvO V' (vT s' 7)) : KT (askW V') s' := by
  obtain ⟨⟨b, w, t, h7, h6, h4, ho⟩, hr, hg⟩ := h
  refine ⟨⟨⟨by rw [hn.1]; exact b.1, by rw [hn.2]; exact b.2⟩, WV_eqW hW' kW_eq, TV_ask.mpr (TV_new (TV_ask.mp t) hv (fun j k hjk => hf (7 + j) k (by omega)) h0 h5), ?_, Or.inl kW_39, ⟨10, by decide, kW_39⟩, fun k => (hf 1 k (by omega)).trans (ho k)⟩, ?_, ?_⟩
  · rw [hf 6 7 (by omega), h7]; exact (kW_39 : askW V 46 39 = 10).trans (kW_39 : askW V' 46 39 = 10).symm
  · intro q hq h18 t ht u hu
    rw [ak_p, vSm_pN hv, ← ak_p V] at hq hu
    rw [ak_t, vSm_tN hv, ← ak_t V] at ht
    rw [hf 18 q (by omega), hf 6 5 (by omega)] at h18
    rw [hf 17 _ (by omega), sWo_new hv]
    exact hr q hq h18 t ht u hu
  · unfold AGE
    rw [hf 6 5 (by omega)]
    refine ⟨hg.1, fun q hq => ?_⟩
    rw [hf 18 q (by omega)]
    exact hg.2 q hq
/-- what a telling to the class may write -/
def KV (s s' : Sg) : Prop := mN s' = mN s ∧ s'.2.2.1 = s.2.2.1 ∧ ∀ a k, ¬ (7 ≤ a ∧ a ≤ 30) → a ≠ 5 → a ≠ 45 → mI s' a k = mI s a k ∧ mL s' a k = mL s a k
theorem k_forget_h : ∀ (k x n : Nat) (s : Sg), zl_B s → x + k = 216 → k < n → ∃ s', f_Wk_forgetPlain_h2 n (nI x) s = some ((), s') ∧ (mN s' = mN s ∧ s'.2.2.1 = s.2.2.1 ∧ ∀ a k, a ≠ 45 → mI s' a k = mI s a k ∧ mL s' a k = mL s a k) ∧ (∀ j, x ≤ j → j < 216 → mI s' 45 j = 1073741824) ∧ (∀ j, j < x → mI s' 45 j = mI s 45 j) := by
  intro k
  induction k with
  | zero =>
    intro x n s hb hx hn
    obtain ⟨n, rfl⟩ : ∃ m, n = m + 1 := ⟨n - 1, by omega⟩
    obtain rfl : x = 216 := by omega
    exact ⟨s, rfl, ⟨rfl, rfl, fun _ _ _ => ⟨rfl, rfl⟩⟩, fun j h1 h2 => by omega, fun _ _ => rfl⟩
  | succ k ih =>
    intro x n s hb hx hn
    obtain ⟨n, rfl⟩ : ∃ m, n = m + 1 := ⟨n - 1, by omega⟩
    have hn81 := hb.1
    have o1 : zl_at s 4 5 := ⟨by decide, by omega, by decide, by decide⟩
    have o2 : mR s 4 6 = some 45 := hb.2 _ _ _ (by decide) (by decide)
    have o3 : zl_ar s 45 10 216 := ⟨by decide, by omega, by decide, by decide, by decide⟩
    obtain ⟨s2, e2, ⟨m2, r2, f2⟩, g2, b2⟩ := ih (x + 1) n (uI s 45 x 1073741824) hb (by omega) (by omega)
    refine ⟨s2, ?_, ⟨m2, r2, fun a k ha => ⟨(f2 a k ha).1.trans (mI_ne _ _ (by omega)), (f2 a k ha).2⟩⟩, fun j h1 h2 => ?_, fun j hj => ?_⟩
    · show f_Wk_forgetPlain_b2 _ _ _ = _
      unfold f_Wk_forgetPlain_b2
      rw [if_neg (show ¬ (216 : Int32) ≤ nI x from nI_ge (b := 216) (by omega) (by decide)), f_ck_of o1, f_ck_of o2, f_ck_of o3, f_ck_of (vp_in_nI (by omega) (by decide)), nI_clamp (by omega), nI_1]
      exact e2
    · by_cases e : j = x
      · rw [e, b2 x (by omega), mI_at]
      · exact g2 j (by omega) h2
    · rw [b2 j (by omega), mI_ne _ _ (by omega)]
theorem k_forgetPlain (hb : zl_B s) : ∃ s', f_Wk_forgetPlain s = some ((), s') ∧ (mN s' = mN s ∧ s'.2.2.1 = s.2.2.1 ∧ ∀ a k, a ≠ 45 → mI s' a k = mI s a k ∧ mL s' a k = mL s a k) ∧ (∀ j, j < 216 → mI s' 45 j = 1073741824) := by
  obtain ⟨s1, e1, f1, g1, -⟩ := k_forget_h 216 0 zl_fl s hb (by decide) (zl_fl_lt (by decide))
  exact ⟨s1, e1, f1, fun j hj => g1 j (Nat.zero_le _) hj⟩
theorem KT.n45 {W : Vw} (h : KT W s) (f : mN s' = mN s ∧ s'.2.2.1 = s.2.2.1 ∧ ∀ a k, a ≠ 45 → mI s' a k = mI s a k ∧ mL s' a k = mL s a k) : KT W s' := h.gf ⟨f.1, f.2.1, fun b k hb => (f.2.2 b k (by omega)).1⟩
theorem k_canOwn (h : KT (askW V) s) (x1 x2 x3 : Int32) : f_Wk_canOwn x1 x2 x3 s = some (if bOwn V x1 x2 x3 = true then 1 else 0, s) := by
  have h16 := p2_le h.1.p4
  have hp4 := h.1.p4
  unfold f_Wk_canOwn
  simp only [f_ck_of h.1.b, f_bd_of (k_isThing h.1 x1), h.1.pe, f_bd_of (k_isSet (s := s) x2 (show pN (askW V) ≤ 7 by omega)), ite10]
  rw [ak_p, ak_t]
  unfold bOwn
  by_cases c1 : xb x1 (tN V) = true
  · rw [if_pos c1, c1]
    by_cases c2 : xb x2 (2 ^ pN V) = true
    · rw [ak_p] at h16
      obtain ⟨u, hu, rfl⟩ := xb_t c2 (by omega)
      rw [if_pos c2, c2, nI_clamp (by omega), f_bd_of (bc_16 u (by omega)), Bool.true_and, Bool.true_and]
      have hb4 := sBits_le4 u (by omega)
      unfold wi
      by_cases c3 : x3 < 1
      · rw [if_pos c3]
        by_cases c4 : nI u = 0
        · rw [if_pos c4, if_neg (by simp; intro h9; rw [h9] at c3; exact absurd c3 (by decide))]
        · rw [if_neg c4, if_neg (by simp [c3])]
      · rw [if_neg c3]
        by_cases c4 : nI u = 0
        · have u0 : u = 0 := (nI_eq (b := 0) (by omega) (by decide)).mp c4
          rw [if_pos c4, u0]
          have eS : (if (1 : Int32) < nI (sBits 0) then nI (sBits 0) else (1 : Int32)) = 1 := by decide
          rw [eS]
          by_cases c5 : (1 : Int32) < x3
          · rw [if_pos c5, if_neg (by simp; intro h9; rw [h9] at c5; exact absurd c5 (by decide))]
          · have e1 : x3 = 1 := Int32.le_antisymm (Int32.not_lt.mp c5) (Int32.not_lt.mp c3)
            rw [if_neg c5, if_pos (by simpa using e1)]
        · have hb1 : 0 < sBits u := by
            have : ∀ w, w < 16 → ¬ w = 0 → 0 < sBits w := by decide
            exact this u (by omega) (fun h9 => c4 (by rw [h9]; rfl))
          have eS : (if (1 : Int32) < nI (sBits u) then nI (sBits u) else (1 : Int32)) = nI (sBits u) := by
            by_cases c6 : (1 : Int32) < nI (sBits u)
            · rw [if_pos c6]
            · have := mt (nI_ltI (a := 1) (b := sBits u) (by decide) (by omega)).mpr c6
              have e1 : sBits u = 1 := by omega
              rw [if_neg c6, e1]; rfl
          rw [if_neg c4, eS]
          by_cases c5 : nI (sBits u) < x3
          · rw [if_pos c5, if_neg (by simp [c5])]
          · rw [if_neg c5, if_pos (by simp [c3, c5])]
    · rw [if_neg c2, if_neg (by simp [c2])]
  · rw [if_neg c1, if_neg (by simp [c1])]
theorem TO (h : KT (askW V) s) : tvO V (vT s 7) := (TV_ask.mp h.1.2.2.1).2.2.2.2.1
theorem T0 (h : KT (askW V) s) : mI s 7 3 = V 46 46 ∧ mI s 7 4 = V 46 47 ∧ mI s 7 5 = V 46 45 := ⟨(TV_ask.mp h.1.2.2.1).1.2.2.2.1, (TV_ask.mp h.1.2.2.1).1.2.2.2.2.1, (TV_ask.mp h.1.2.2.1).1.2.2.2.2.2⟩
/-- what a telling to the class comes to -/
def QV (V' : Vw) (s : Sg) (f : Option (Int32 × Sg)) (a : Int32) : Prop := ∃ s', f = some (a, s') ∧ KT (askW V') s' ∧ KV s s' ∧ PL V' s'
theorem gO_cg {W X : Vw} (h : eqQ W X) : gO X = gO W := by
  unfold gO
  rw [cg_sFar h]
  cases sFar W 99 0 with
  | none => rfl
  | some t => simp only [cg_sGood h.1]
theorem plv_own (hW : WV V) (t : Nat) (x2 x3 : Int32) (x : Nat) : plv (vU (vU V 69 t x2) 70 t x3) x = plv V x := by
  have hn : ∀ b j, b ≠ 69 → b ≠ 70 → vU (vU V 69 t x2) 70 t x3 b j = V b j := fun b j h1 h2 => by rw [vU_ne _ _ (by omega), vU_ne _ _ (by omega)]
  have ep : pN (vU (vU V 69 t x2) 70 t x3) = pN V := by unfold pN; rw [hn 46 10 (by decide) (by decide)]
  have et : tN (vU (vU V 69 t x2) 70 t x3) = tN V := by unfold tN; rw [hn 46 11 (by decide) (by decide)]
  have eo : ∀ d, owP (vU (vU V 69 t x2) 70 t x3) d = owP V d ∧ ndP (vU (vU V 69 t x2) 70 t x3) d = ndP V d := fun d => by unfold owP ndP; rw [ep]; exact ⟨rfl, rfl⟩
  have ed : ∀ j, sDig (vU (vU V 69 t x2) 70 t x3) x j = sDig V x j := fun j => by unfold sDig; rw [ep]
  have l1 : laid (plW V x) 0 (fun t => owP V (sDig V x t)) (fun t => ndP V (sDig V x t)) 3 := kW_la0
  have l2 : laid (plW (vU (vU V 69 t x2) 70 t x3) x) 0 (fun j => owP (vU (vU V 69 t x2) 70 t x3) (sDig (vU (vU V 69 t x2) 70 t x3) x j)) (fun j => ndP (vU (vU V 69 t x2) 70 t x3) (sDig (vU (vU V 69 t x2) 70 t x3) x j)) 3 := kW_la0
  have k7 : ∀ b j, trp b j = false → b ≠ 69 → b ≠ 70 → plW (vU (vU V 69 t x2) 70 t x3) x b j = plW V x b j := fun b j hb h1 h2 => (kW_no hb : plW (vU (vU V 69 t x2) 70 t x3) x b j = _).trans ((hn b j h1 h2).trans (kW_no hb : plW V x b j = V b j).symm)
  have hpt : tN (plW V x) = tN V := eqW_tN kW_eq
  have q : eqQ (plW V x) (plW (vU (vU V 69 t x2) 70 t x3) x) := by
    refine ⟨⟨fun b j hb h1 h2 _ => k7 b j hb h1 h2, rfl, Or.inl rfl⟩, fun j hj => ?_, fun j hj => ?_, rfl, Or.inl rfl⟩
    · have hj3 : j < 3 := by have := hW.2.1.2; omega
      rw [(l1 j hj3).1, (l1 j hj3).2.1, (l2 j hj3).1, (l2 j hj3).2.1]
      simp only [ed, (eo _).1, (eo _).2]
      exact ⟨trivial, trivial⟩
    · have hj3 : j < 3 := by have := hW.2.1.2; omega
      show plW (vU (vU V 69 t x2) 70 t x3) x 74 (0 + 3 + j) = plW V x 74 (0 + 3 + j) ∧ plW (vU (vU V 69 t x2) 70 t x3) x 75 (0 + 3 + j) = plW V x 75 (0 + 3 + j)
      rw [(l1 j hj3).2.2.1, (l1 j hj3).2.2.2, (l2 j hj3).2.2.1, (l2 j hj3).2.2.2, k7 73 j rfl (by decide) (by decide), k7 71 j rfl (by decide) (by decide), k7 72 j rfl (by decide) (by decide)]
      simp only [ed, (eo _).1, (eo _).2]
      exact ⟨trivial, trivial⟩
  unfold plv plO
  rw [gO_cg q]
theorem kq_own (h : KT (askW V) s) (hp : PL V s) (x1 x2 x3 : Int32) (hW' : WV (vOwn V x1 x2 x3)) : QV (vOwn V x1 x2 x3) s (f_Wk_own x1 x2 x3 s) (b2i (bOwn V x1 x2 x3)) := by
  have hW := askWV h
  have ht3 := hW.2.1.2
  have ho := sOws_le hW
  unfold f_Wk_own
  unfold vOwn at hW' ⊢
  simp only [f_ck_of h.1.b, f_bd_of (k_canOwn h x1 x2 x3), ite10]
  by_cases c : bOwn V x1 x2 x3 = true
  · obtain ⟨t, ht, rfl, n2, n3, -⟩ := bOwn_t hW c
    have i3 : vp_in (nI t) 3 := vp_in_nI (by omega) (by decide)
    rw [if_pos c] at hW' ⊢
    rw [if_pos c, c, f_ck_of i3, f_ck_of i3]
    rw [nI_clamp (by omega)] at hW' ⊢
    have hn : ∀ b j, b ≠ 69 → b ≠ 70 → vU (vU V 69 t x2) 70 t x3 b j = V b j := fun b j h1 h2 => by rw [vU_ne _ _ (by omega), vU_ne _ _ (by omega)]
    have hk : KT (askW (vU (vU V 69 t x2) 70 t x3)) (uI (uI s 13 t x2) 14 t x3) := by
      refine KT_new h hW' (fun b j hb => hn b j (by omega) (by omega)) ⟨rfl, rfl⟩ (fun b k hb => by rw [mI_ne _ _ (by omega), mI_ne _ _ (by omega)]) ?_ ?_
      · rw [mI_ne _ _ (by omega), mI_ne _ _ (by omega), mI_ne _ _ (by omega), mI_ne _ _ (by omega), mI_ne _ _ (by omega), mI_ne _ _ (by omega), hn 46 46 (by decide) (by decide), hn 46 47 (by decide) (by decide), hn 46 45 (by decide) (by decide)]
        exact T0 h
      · intro u hu
        obtain ⟨a1, a2, a3⟩ := TO h u hu
        show mI (uI (uI s 13 t x2) 14 t x3) 13 u = _ ∧ mI (uI (uI s 13 t x2) 14 t x3) 14 u = _ ∧ ((_ ∧ mI (uI (uI s 13 t x2) 14 t x3) 16 u = _) ∨ (_ ∧ mI (uI (uI s 13 t x2) 14 t x3) 15 u = _ ∧ mI (uI (uI s 13 t x2) 14 t x3) 16 u = _ ∧ _))
        rw [mI_ne (b := 16) _ _ (by omega), mI_ne (b := 16) _ _ (by omega), mI_ne (b := 15) _ _ (by omega), mI_ne (b := 15) _ _ (by omega), hn 73 u (by decide) (by decide), hn 71 u (by decide) (by decide), hn 72 u (by decide) (by decide)]
        refine ⟨?_, ?_, a3⟩
        · rw [mI_ne _ _ (by omega)]
          by_cases e : u = t
          · rw [e, mI_at, vU_ne _ _ (by omega), vU_at]
          · rw [mI_ne _ _ (by omega), vU_ne _ _ (by omega), vU_ne _ _ (by omega)]; exact a1
        · by_cases e : u = t
          · rw [e, mI_at, vU_at]
          · rw [mI_ne _ _ (by omega), mI_ne _ _ (by omega), vU_ne _ _ (by omega), vU_ne _ _ (by omega)]; exact a2
    refine ⟨_, rfl, hk, ⟨rfl, rfl, fun a k h1 h2 h3 => ⟨by rw [mI_ne _ _ (by omega), mI_ne _ _ (by omega)], rfl⟩⟩, fun x hx => ?_⟩
    have eo : sOws (vU (vU V 69 t x2) 70 t x3) = sOws V := by
      unfold sOws pN tN
      rw [hn 46 10 (by decide) (by decide), hn 46 11 (by decide) (by decide)]
    rw [eo] at hx
    rw [mI_ne _ _ (by omega), mI_ne _ _ (by omega), plv_own hW]
    exact hp x hx
  · have e : bOwn V x1 x2 x3 = false := by simpa using c
    rw [if_neg c] at hW' ⊢
    rw [if_neg c, e]
    exact ⟨s, rfl, h, ⟨rfl, rfl, fun _ _ _ _ _ => ⟨rfl, rfl⟩⟩, hp⟩
/-- after the plain ownings were forgotten -/
theorem PL_new {V' : Vw} (hW : WV V') (h : ∀ j, j < 216 → mI s 45 j = 1073741824) : PL V' s := fun x hx => Or.inl (h x (by have := sOws_le hW; omega))
theorem kq_later (h : KT (askW V) s) (hp : PL V s) (x1 x2 x3 : Int32) (hW' : WV (vLater V x1 x2 x3)) : QV (vLater V x1 x2 x3) s (f_Wk_later x1 x2 x3 s) (b2i (bOwn V x1 x2 x3)) := by
  have hW := askWV h
  have ht3 := hW.2.1.2
  unfold f_Wk_later
  unfold vLater at hW' ⊢
  simp only [f_ck_of h.1.b, f_bd_of (k_canOwn h x1 x2 x3), ite10]
  by_cases c : bOwn V x1 x2 x3 = true
  · obtain ⟨t, ht, rfl, n2, n3, n0⟩ := bOwn_t hW c
    have i3 : vp_in (nI t) 3 := vp_in_nI (by omega) (by decide)
    rw [if_pos c] at hW' ⊢
    rw [if_pos c, c, f_ck_of i3, f_ck_of i3]
    rw [nI_clamp (by omega)] at hW' ⊢
    have hn : ∀ b j, b ≠ 71 → b ≠ 72 → b ≠ 73 → vU (vU (vU V 71 t x2) 72 t x3) 73 t 1 b j = V b j := fun b j h1 h2 h3 => by rw [vU_ne _ _ (by omega), vU_ne _ _ (by omega), vU_ne _ _ (by omega)]
    have hk : KT (askW (vU (vU (vU V 71 t x2) 72 t x3) 73 t 1)) (uI (uI s 15 t x2) 16 t x3) := by
      refine KT_new h hW' (fun b j hb => hn b j (by omega) (by omega) (by omega)) ⟨rfl, rfl⟩ (fun b k hb => by rw [mI_ne _ _ (by omega), mI_ne _ _ (by omega)]) ?_ ?_
      · rw [mI_ne _ _ (by omega), mI_ne _ _ (by omega), mI_ne _ _ (by omega), mI_ne _ _ (by omega), mI_ne _ _ (by omega), mI_ne _ _ (by omega), hn 46 46 (by decide) (by decide) (by decide), hn 46 47 (by decide) (by decide) (by decide), hn 46 45 (by decide) (by decide) (by decide)]
        exact T0 h
      · intro u hu
        obtain ⟨a1, a2, a3⟩ := TO h u hu
        show mI (uI (uI s 15 t x2) 16 t x3) 13 u = _ ∧ mI (uI (uI s 15 t x2) 16 t x3) 14 u = _ ∧ ((_ ∧ mI (uI (uI s 15 t x2) 16 t x3) 16 u = _) ∨ (_ ∧ mI (uI (uI s 15 t x2) 16 t x3) 15 u = _ ∧ mI (uI (uI s 15 t x2) 16 t x3) 16 u = _ ∧ _))
        rw [mI_ne (b := 13) _ _ (by omega), mI_ne (b := 13) _ _ (by omega), mI_ne (b := 14) _ _ (by omega), mI_ne (b := 14) _ _ (by omega), hn 69 u (by decide) (by decide) (by decide), hn 70 u (by decide) (by decide) (by decide)]
        refine ⟨a1, a2, ?_⟩
        by_cases e : u = t
        · right
          rw [e, vU_at, mI_at, mI_ne _ _ (by omega), mI_at, vU_ne _ _ (by omega), vU_ne _ _ (by omega), vU_at, vU_ne _ _ (by omega), vU_at]
          exact ⟨rfl, rfl, rfl, n0⟩
        · rw [mI_ne _ _ (by omega), mI_ne _ _ (by omega), mI_ne _ _ (by omega), mI_ne _ _ (by omega), vU_ne _ _ (by omega), vU_ne _ _ (by omega), vU_ne _ _ (by omega), vU_ne _ _ (by omega), vU_ne _ _ (by omega), vU_ne _ _ (by omega), vU_ne _ _ (by omega), vU_ne _ _ (by omega), vU_ne _ _ (by omega)]
          exact a3
    obtain ⟨s3, e3, f3, g3⟩ := k_forgetPlain hk.1.b
    rw [f_bd_of e3]
    refine ⟨s3, rfl, hk.n45 f3, ⟨f3.1, f3.2.1, fun a k h1 h2 h3 => ⟨by rw [(f3.2.2 a k h3).1, mI_ne _ _ (by omega), mI_ne _ _ (by omega)], (f3.2.2 a k h3).2⟩⟩, PL_new hW' g3⟩
  · have e : bOwn V x1 x2 x3 = false := by simpa using c
    rw [if_neg c] at hW' ⊢
    rw [if_neg c, e]
    exact ⟨s, rfl, h, ⟨rfl, rfl, fun _ _ _ _ _ => ⟨rfl, rfl⟩⟩, hp⟩
theorem kq_chance (h : KT (askW V) s) (hp : PL V s) (x : Int32) (hW' : WV (vChance V x)) : QV (vChance V x) s (f_Wk_chance x s) (b2i (wi x 0 10)) := by
  unfold f_Wk_chance
  unfold vChance at hW' ⊢
  rw [f_bd_of (k_isWithin (s := s) x 10), ite10]
  by_cases c : wi x 0 10 = true
  · rw [if_pos c] at hW' ⊢
    rw [if_pos c, c, f_ck_of h.1.b]
    have hn : ∀ b j, ¬ (b = 46 ∧ j = 45) → vU V 46 45 x b j = V b j := fun b j h1 => vU_ne _ _ h1
    have hk : KT (askW (vU V 46 45 x)) (uI s 7 5 x) := by
      refine KT_new h hW' (fun b j hb => hn b j (by omega)) ⟨rfl, rfl⟩ (fun b k hb => mI_ne _ _ (by omega)) ?_ ?_
      · rw [mI_ne _ _ (by decide), mI_ne _ _ (by decide), mI_at, hn 46 46 (by decide), hn 46 47 (by decide), vU_at]
        exact ⟨(T0 h).1, (T0 h).2.1, rfl⟩
      · intro u hu
        obtain ⟨a1, a2, a3⟩ := TO h u hu
        show mI (uI s 7 5 x) 13 u = _ ∧ mI (uI s 7 5 x) 14 u = _ ∧ ((_ ∧ mI (uI s 7 5 x) 16 u = _) ∨ (_ ∧ mI (uI s 7 5 x) 15 u = _ ∧ mI (uI s 7 5 x) 16 u = _ ∧ _))
        rw [mI_ne _ _ (by omega), mI_ne _ _ (by omega), mI_ne _ _ (by omega), mI_ne _ _ (by omega), hn 69 u (by omega), hn 70 u (by omega), hn 71 u (by omega), hn 72 u (by omega), hn 73 u (by omega)]
        exact ⟨a1, a2, a3⟩
    obtain ⟨s3, e3, f3, g3⟩ := k_forgetPlain hk.1.b
    rw [f_bd_of e3]
    refine ⟨s3, rfl, hk.n45 f3, ⟨f3.1, f3.2.1, fun a k h1 h2 h3 => ⟨by rw [(f3.2.2 a k h3).1, mI_ne _ _ (by omega)], (f3.2.2 a k h3).2⟩⟩, PL_new hW' g3⟩
  · have e : wi x 0 10 = false := by simpa using c
    rw [if_neg c] at hW' ⊢
    rw [if_neg c, e]
    exact ⟨s, rfl, h, ⟨rfl, rfl, fun _ _ _ _ _ => ⟨rfl, rfl⟩⟩, hp⟩
theorem kq_barg (h : KT (askW V) s) (hp : PL V s) (x1 x2 : Int32) (hW' : WV (vBarg V x1 x2)) : QV (vBarg V x1 x2) s (f_Wk_bargain x1 x2 s) (b2i (bBarg V x1 x2)) := by
  unfold f_Wk_bargain
  unfold vBarg at hW' ⊢
  unfold bBarg at hW' ⊢
  simp only [f_bd_of (k_isWithin (s := s) x1 2), f_bd_of (k_isPerson h.1 x2), ite10, f_ck_of h.1.b, ak_p]
  have hno : (wi x1 0 2 && xb x2 (pN V)) = false → QV (if (wi x1 0 2 && xb x2 (pN V)) = true then vU (vU V 46 46 x1) 46 47 x2 else V) s (some ((0 : Int32), s)) (b2i (wi x1 0 2 && xb x2 (pN V))) := by
    intro e
    rw [e, if_neg (by decide)]
    exact ⟨s, rfl, h, ⟨rfl, rfl, fun _ _ _ _ _ => ⟨rfl, rfl⟩⟩, hp⟩
  by_cases c1 : wi x1 0 2 = true
  · rw [if_pos c1]
    by_cases c2 : xb x2 (pN V) = true
    · have c : (wi x1 0 2 && xb x2 (pN V)) = true := by rw [c1, c2]; rfl
      rw [if_pos c] at hW' ⊢
      rw [if_pos c2, c]
      have hn : ∀ b j, ¬ (b = 46 ∧ (j = 46 ∨ j = 47)) → vU (vU V 46 46 x1) 46 47 x2 b j = V b j := fun b j h1 => by rw [vU_ne _ _ (by omega), vU_ne _ _ (by omega)]
      have hk : KT (askW (vU (vU V 46 46 x1) 46 47 x2)) (uI (uI s 7 3 x1) 7 4 x2) := by
        refine KT_new h hW' (fun b j hb => hn b j (by omega)) ⟨rfl, rfl⟩ (fun b k hb => by rw [mI_ne _ _ (by omega), mI_ne _ _ (by omega)]) ?_ ?_
        · rw [mI_ne _ _ (by decide), mI_at, mI_at, mI_ne _ _ (by decide), mI_ne _ _ (by decide), vU_ne _ _ (by decide), vU_at, vU_at, hn 46 45 (by decide)]
          exact ⟨rfl, rfl, (T0 h).2.2⟩
        · intro u hu
          obtain ⟨a1, a2, a3⟩ := TO h u hu
          show mI (uI (uI s 7 3 x1) 7 4 x2) 13 u = _ ∧ mI (uI (uI s 7 3 x1) 7 4 x2) 14 u = _ ∧ ((_ ∧ mI (uI (uI s 7 3 x1) 7 4 x2) 16 u = _) ∨ (_ ∧ mI (uI (uI s 7 3 x1) 7 4 x2) 15 u = _ ∧ mI (uI (uI s 7 3 x1) 7 4 x2) 16 u = _ ∧ _))
          have hm : ∀ b j, b ≠ 7 → mI (uI (uI s 7 3 x1) 7 4 x2) b j = mI s b j := fun b j hb => by rw [mI_ne _ _ (by omega), mI_ne _ _ (by omega)]
          rw [hm 13 u (by decide), hm 14 u (by decide), hm 15 u (by decide), hm 16 u (by decide), hn 69 u (by omega), hn 70 u (by omega), hn 71 u (by omega), hn 72 u (by omega), hn 73 u (by omega)]
          exact ⟨a1, a2, a3⟩
      obtain ⟨s3, e3, f3, g3⟩ := k_forgetPlain hk.1.b
      rw [f_bd_of e3]
      refine ⟨s3, rfl, hk.n45 f3, ⟨f3.1, f3.2.1, fun a k h1 h2 h3 => ⟨by rw [(f3.2.2 a k h3).1, mI_ne _ _ (by omega), mI_ne _ _ (by omega)], (f3.2.2 a k h3).2⟩⟩, PL_new hW' g3⟩
    · rw [if_neg c2]; exact hno (by simp [c2])
  · rw [if_neg c1]; exact hno (by simp [c1])
end
