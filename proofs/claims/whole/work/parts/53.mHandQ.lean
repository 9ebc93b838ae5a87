/-! one hand, apart, count: the questions to the model -/
section
def mxS (o : Option Int32) (v : Int32) : Option Int32 := match o with
  | none => some v
  | some m => some (if m < v then v else m)
def ohS (g : Option Int32) (d : Bool) (o : Option Int32 × Option Int32) : Option Int32 × Option Int32 := match g with
  | none => o
  | some v => if d = true then (mxS o.1 v, o.2) else (o.1, mxS o.2 v)
def ohL (g : Nat → Option Int32) (d : Nat → Bool) : Nat → Nat → Option Int32 × Option Int32 → Option Int32 × Option Int32
  | 0, _, o => o
  | k + 1, x, o => ohL g d k (x + 1) (ohS (g x) (d x) o)
def dgE (V : Vw) (a b : Nat) (x : Nat) : Bool := decide (sDig V x a = sDig V x b)
def ohR (V : Vw) (x1 x2 : Int32) : Option Int32 × Option Int32 := ohL (plO V) (dgE V x1.toNatClampNeg x2.toNatClampNeg) (sOws V) 0 (none, none)
def bOneHand (V : Vw) (x1 x2 : Int32) : Bool := (bP V && (xb x1 (tN V) && (xb x2 (tN V) && !decide (x1 = x2)))) && ((ohR V x1 x2).1.isSome && (ohR V x1 x2).2.isSome)
def aOneHand (V : Vw) (x1 x2 : Int32) : Int32 := oV (ohR V x1 x2).1 - oV (ohR V x1 x2).2
variable {V : Vw} {s : Sg}
theorem dgE_cg {V' : Vw} (h : eqW V V') (a b : Nat) : dgE V' a b = dgE V a b := by
  funext x
  unfold dgE sDig
  rw [eqW_pN h]
theorem sDig_lt (hp : pN V ≤ 4) (x t : Nat) : sDig V x t < 6 := Nat.lt_of_lt_of_le (sDigL_lt (by omega) _ _) (by omega)
theorem m_one_h67 {a b : Nat} (ha : a < 3) (hb : b < 3) : ∀ (k x n : Nat) (o : Option Int32 × Option Int32) (V : Vw) (s : Sg), RM V s → V 46 39 = 10 → x + k = sOws V → k < n →
    ∃ s' V', f_Mo_oneHand_h67 n (nI a) (nI b) (b2i o.1.isSome) (b2i o.2.isSome) (oV o.1) (oV o.2) (nI x) s = f_Mo_oneHand_b168 (b2i (ohL (plO V) (dgE V a b) k x o).1.isSome) (b2i (ohL (plO V) (dgE V a b) k x o).2.isSome) (oV (ohL (plO V) (dgE V a b) k x o).1) (oV (ohL (plO V) (dgE V a b) k x o).2) s' ∧ RM V' s' ∧ FM s s' ∧ eqW V V' := by
  intro k
  induction k with
  | zero =>
    intro x n o V s h h39 hx hn
    obtain ⟨n, rfl⟩ : ∃ m, n = m + 1 := ⟨n - 1, by omega⟩
    have ho := sOws_le h.w
    refine ⟨s, V, ?_, h, FM.rf s, eqW.rf V⟩
    show f_Mo_oneHand_b67 _ _ _ _ _ _ _ _ _ = _
    unfold f_Mo_oneHand_b67
    rw [f_ck_of h.b, f_bd_of (m_owningsOf h), if_pos (nI_le (by omega) (by omega))]
    rfl
  | succ k ih =>
    intro x n o V s h h39 hx hn
    obtain ⟨n, rfl⟩ : ∃ m, n = m + 1 := ⟨n - 1, by omega⟩
    have ho := sOws_le h.w
    have hp4 := h.p4
    obtain ⟨s1, V1, e1, h1, f1, w1, z1, r1⟩ := m_reachByQ h h39 (x := x) (by omega)
    obtain ⟨s2, V2, e2, h2, f2, w2⟩ := ih (x + 1) n (ohS (plO V x) (dgE V a b x) o) V1 s1 h1 z1 (by rw [sOws_cg w1]; omega) (by omega)
    rw [plO_cg w1, dgE_cg w1] at e2
    refine ⟨s2, V2, ?_, h2, f1.trans f2, w1.trans w2⟩
    refine Eq.trans ?_ e2
    show f_Mo_oneHand_b67 _ _ _ _ _ _ _ _ _ = _
    unfold f_Mo_oneHand_b67
    rw [f_ck_of h.b, f_bd_of (m_owningsOf h), if_neg (nI_ge (by omega) (by omega)), f_ck_of h.b, f_bd_of e1, f_ck_of h1.b]
    unfold f_Mo_oneHand_b129 f_Mo_oneHand_b157 f_Mo_oneHand_b162
    have hg : plO V x = gO (plW V x) := rfl
    have hd1 := sDig_lt (V := V) hp4 x a
    have hd2 := sDig_lt (V := V) hp4 x b
    have ed : ∀ t, sDig V1 x t = sDig V x t := fun t => by unfold sDig; rw [eqW_pN w1]
    simp only [nI_1, f_ck_of h1.b, f_bd_of (m_digit h1 (x := x) (t := a) (by omega) (by omega)), f_bd_of (m_digit h1 (x := x) (t := b) (by omega) (by omega)), ed]
    rw [hg]
    cases hv : gO (plW V x) with
    | none => rw [if_pos (r1.1 hv).1]; rfl
    | some v =>
      rw [if_neg (by rw [(r1.2 v hv).1]; decide), (r1.2 v hv).2]
      obtain ⟨o1, o2⟩ := o
      by_cases c : sDig V x a = sDig V x b
      · have eo : ohS (some v) (dgE V a b x) (o1, o2) = (mxS o1 v, o2) := by unfold ohS dgE; simp [c]
        rw [eo, if_pos (show nI (sDig V x a) = nI (sDig V x b) by rw [c])]
        cases o1 with
        | none => rfl
        | some m => rfl
      · have eo : ohS (some v) (dgE V a b x) (o1, o2) = (o1, mxS o2 v) := by unfold ohS dgE; simp [c]
        rw [eo, if_neg (show ¬ nI (sDig V x a) = nI (sDig V x b) from nI_neq (by omega) (by omega) c)]
        cases o2 with
        | none => rfl
        | some m => rfl
theorem m_oneHandQ (h : RM V s) (x1 x2 : Int32) : QM V s (f_Mo_oneHand x1 x2 s) (gB (bOneHand V x1 x2) (aOneHand V x1 x2)) (tB (bOneHand V x1 x2)) := by
  have h1 := h.tr (a := 46) (k := 39) rfl (by decide) 10
  have f1 : FO s (uI s 46 39 10) := FO.uI s (a := 46) (k := 39) 10 (by decide)
  have w1 : eqW V (vU V 46 39 10) := eqW.vU rfl _
  have hb : bP (vU V 46 39 10) = bP V := by unfold bP; rw [eqW_pN w1]
  have ht3 := h.t3
  have ho := sOws_le h.w
  have hn : QM V s (f_Mo_oneHand_b40 x1 x2 1 (uI s 46 39 10)) 0 1 := by
    have ft := FO_th f1 1
    unfold f_Mo_oneHand_b40
    simp only [f_ck_of h1.b, ft.2]
    rw [if_pos trivial]
    exact QM.mk rfl (h1.sc 46 0 1 rfl) ft.1 w1 ft.2
  have hno : (bP V && (xb x1 (tN V) && (xb x2 (tN V) && !decide (x1 = x2)))) = false → QM V s (f_Mo_oneHand_b40 x1 x2 1 (uI s 46 39 10)) (gB (bOneHand V x1 x2) (aOneHand V x1 x2)) (tB (bOneHand V x1 x2)) := by
    intro e
    unfold bOneHand
    rw [e]; exact hn
  unfold f_Mo_oneHand f_Mo_oneHand_b39
  simp only [f_ck_of h.b, (pe_0 h1).1, hb, f_bd_of (m_isThing h1 x1), f_bd_of (m_isThing h1 x2), f_ck_of h1.b, ite10, (eqW_xb w1 x1).2.1, (eqW_xb w1 x2).2.1]
  by_cases c : bP V = true
  · rw [if_neg (fun h9 => h9 c)]
    by_cases c1 : xb x1 (tN V) = true
    · rw [if_pos c1]
      by_cases c2 : xb x2 (tN V) = true
      · rw [if_pos c2]
        by_cases c3 : x1 = x2
        · rw [if_pos c3]; exact hno (by simp [c3])
        · rw [if_neg c3]
          have hall : (bP V && (xb x1 (tN V) && (xb x2 (tN V) && !decide (x1 = x2)))) = true := by simp [c, c1, c2, c3]
          obtain ⟨a, ha, rfl⟩ := xb_t c1 (by omega)
          obtain ⟨b, hb2, rfl⟩ := xb_t c2 (by omega)
          have ft := FO_th f1 0
          have h2 := h1.sc 46 0 0 rfl
          obtain ⟨s3, V3, e3, h3, f3, w3⟩ := m_one_h67 (a := a) (b := b) (by omega) (by omega) (sOws V) 0 zl_fl (none, none) _ _ h2 (vU_at _ _ _ _) (by rw [sOws_cg w1]; omega) (zl_fl_lt (by omega))
          rw [plO_cg w1, dgE_cg w1] at e3
          unfold bOneHand aOneHand ohR
          rw [hall, nI_clamp (by omega), nI_clamp (by omega), Bool.true_and]
          unfold f_Mo_oneHand_b40
          simp only [f_ck_of h1.b, ft.2]
          rw [if_neg (by decide)]
          have e3' : f_Mo_oneHand_h67 zl_fl (nI a) (nI b) 0 0 0 0 0 _ = _ := e3
          rw [e3']
          unfold f_Mo_oneHand_b168 f_Mo_oneHand_b182
          have fx := fun t => FO_th (ft.1.trans f3.1) t
          have hx := fun t => h3.sc 46 0 t rfl
          have hz : ∀ y z : Int32, QM V s (f_Mo_oneHand_b183 y z 1 s3) 0 1 := by
            intro y z
            unfold f_Mo_oneHand_b183
            simp only [f_ck_of h3.b, (fx 1).2]
            rw [if_pos trivial]
            exact QM.mk rfl (hx 1) (fx 1).1 (w1.trans w3) (fx 1).2
          generalize ohL (plO V) (dgE V a b) (sOws V) 0 (none, none) = o
          obtain ⟨o1, o2⟩ := o
          cases o1 with
          | none => exact hz _ _
          | some y =>
            cases o2 with
            | none => exact hz _ _
            | some z =>
              rw [if_neg (show ¬ b2i (some y).isSome = 0 from (by decide : ¬ b2i true = 0)), if_neg (show ¬ b2i (some z).isSome = 0 from (by decide : ¬ b2i true = 0))]
              unfold f_Mo_oneHand_b183
              simp only [f_ck_of h3.b, (fx 0).2]
              rw [if_neg (by decide)]
              exact QM.mk rfl (hx 0) (fx 0).1 (w1.trans w3) (fx 0).2
      · rw [if_neg c2]; exact hno (by simp [c2])
    · rw [if_neg c1]; exact hno (by simp [c1])
  · rw [if_pos c]; exact hno (by simp [c])
/-! count -/
def cnL (V : Vw) : Nat → Nat → Nat → Nat
  | 0, _, n => n
  | k + 1, q, n => cnL V k (q + 1) (if vpa V q = true then n + 1 else n)
def aCount (V : Vw) (x : Int32) : Int32 := nB (wi x 0 5) (if x = 0 then V 46 10 else if x = 1 then V 46 11 else if x = 2 then V 46 12 else if x = 3 then nI (sOws V) else if x = 4 then nI (if bP V = true then cnL V (4 ^ pN V) 0 0 else 0) else V 46 1)
theorem m_count_b66 (h : RM V s) (x : Int32) (y : Nat) (hy : x = 4 → y = (if bP V = true then cnL V (4 ^ pN V) 0 0 else 0)) : f_Mo_count_b66 x (nI y) s = some (if x = 0 then V 46 10 else if x = 1 then V 46 11 else if x = 2 then V 46 12 else if x = 3 then nI (sOws V) else if x = 4 then nI (if bP V = true then cnL V (4 ^ pN V) 0 0 else 0) else V 46 1, s) := by
  unfold f_Mo_count_b66
  simp only [f_ck_of h.b, f_bd_of (m_owningsOf h), h.e 46 10 rfl, h.e 46 11 rfl, h.e 46 12 rfl, h.e 46 1 rfl]
  by_cases c0 : x = 0
  · rw [if_pos c0, if_pos c0]
  · rw [if_neg c0, if_neg c0]
    by_cases c1 : x = 1
    · rw [if_pos c1, if_pos c1]
    · rw [if_neg c1, if_neg c1]
      by_cases c2 : x = 2
      · rw [if_pos c2, if_pos c2]
      · rw [if_neg c2, if_neg c2]
        by_cases c3 : x = 3
        · rw [if_pos c3, if_pos c3]
        · rw [if_neg c3, if_neg c3]
          by_cases c4 : x = 4
          · rw [if_pos c4, if_pos c4, hy c4]
          · rw [if_neg c4, if_neg c4]
theorem m_count_h (h : RM V s) (hb : bP V = true) : ∀ (k q n m : Nat), q + k = 4 ^ pN V → k < n → f_Mo_count_h20 n 4 (nI m) (nI q) s = f_Mo_count_b66 4 (nI (cnL V k q m)) s := by
  have hp4 := h.p4
  have h256 := p4_le hp4
  intro k
  induction k with
  | zero =>
    intro q n m hq hn
    obtain ⟨n, rfl⟩ : ∃ m, n = m + 1 := ⟨n - 1, by omega⟩
    show f_Mo_count_b20 _ _ _ _ _ = _
    unfold f_Mo_count_b20
    rw [f_ck_of h.b, h.pe, shl_2p _ hp4, if_pos (nI_le (by omega) (by omega))]
    rfl
  | succ k ih =>
    intro q n m hq hn
    obtain ⟨n, rfl⟩ : ∃ m, n = m + 1 := ⟨n - 1, by omega⟩
    show f_Mo_count_b20 _ _ _ _ _ = f_Mo_count_b66 4 (nI (cnL V k (q + 1) (if vpa V q = true then m + 1 else m))) s
    unfold f_Mo_count_b20 f_Mo_count_b58
    have h0 := (pe_0 h).1
    rw [h.pe] at h0
    simp only [f_ck_of h.b, h.pe, shl_2p _ hp4, h0, f_bd_of (m_isPainsN h (show q < 2 ^ 31 by omega)), ite10, nI_1, Int32.add_zero]
    rw [if_neg (nI_ge (by omega) (by omega)), if_neg (fun h9 => h9 hb), if_pos trivial]
    by_cases c : vpa V q = true
    · rw [if_pos c, if_pos c]
      exact ih (q + 1) n (m + 1) (by omega) (by omega)
    · rw [if_neg c, if_neg c]
      exact ih (q + 1) n m (by omega) (by omega)
theorem m_countQ (h : RM V s) (x : Int32) : QM V s (f_Mo_count x s) (aCount V x) 0 := by
  obtain ⟨h1, f1, t1⟩ := h.no
  have hp4 := h.p4
  have h256 := p4_le hp4
  have h1p : 1 ≤ 4 ^ pN V := Nat.one_le_pow _ _ (by decide)
  unfold f_Mo_count aCount nB
  simp only [f_ck_of h.b, f_bd_of (m_wi x 0 5), ite10]
  by_cases c : wi x 0 5 = true
  · rw [if_pos c, if_pos c]
    refine QM.mk ?_ h1 f1 (eqW.rf V) t1
    by_cases c4 : x = 4 ∧ bP V = true
    · obtain ⟨rfl, hb⟩ := c4
      have e := m_count_h h1 hb (4 ^ pN V) 0 zl_fl 0 (by omega) (zl_fl_lt (by omega))
      exact Eq.trans e (m_count_b66 h1 4 _ (fun _ => by rw [if_pos hb]))
    · have e : f_Mo_count_h20 zl_fl x 0 0 (uI s 46 0 0) = f_Mo_count_b66 x (nI 0) (uI s 46 0 0) := by
        show f_Mo_count_b20 _ _ _ _ _ = _
        unfold f_Mo_count_b20
        have h0 := (pe_0 h1).1
        rw [h1.pe] at h0
        simp only [f_ck_of h1.b, h1.pe, shl_2p _ hp4, h0]
        rw [if_neg (show ¬ nI (4 ^ pN V) ≤ 0 from nI_ge (a := 0) (by omega) (by omega))]
        by_cases cb : bP V = true
        · rw [if_neg (fun h9 => h9 cb), if_neg (fun h9 => c4 ⟨h9, cb⟩)]; rfl
        · rw [if_pos cb]; rfl
      refine Eq.trans e (m_count_b66 h1 x 0 (fun hx => ?_))
      by_cases cb : bP V = true
      · exact absurd ⟨hx, cb⟩ c4
      · rw [if_neg cb]
  · rw [if_neg c, if_neg c]
    exact QM.mk rfl h1 f1 (eqW.rf V) t1
end
