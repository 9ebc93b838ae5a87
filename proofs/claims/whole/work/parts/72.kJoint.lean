/-! joint, one hand: the class -/
section
variable {V : Vw} {s : Sg}
theorem k_jointN (h : KT (askW V) s) : f_Wk_jointNumber s = some (nI (sJn V (tN V) 0), s) := by
  have ht3 := h.1.t3
  have hj : ∀ k x, sJn (askW V) k x = sJn V k x := by
    intro k
    induction k with
    | zero => intro x; rfl
    | succ k ih => intro x; show sJn (askW V) k (x * (pN (askW V) + 2) + pN (askW V)) = sJn V k (x * (pN V + 2) + pN V); rw [ak_p, ih]
  have hl : ∀ (k t n x : Nat), t + k = tN (askW V) → k < n → f_Wk_jointNumber_h4 n (nI x) (nI t) s = some (nI (sJn (askW V) k x), s) := by
    intro k
    induction k with
    | zero =>
      intro t n x ht hn
      obtain ⟨n, rfl⟩ : ∃ m, n = m + 1 := ⟨n - 1, by omega⟩
      show f_Wk_jointNumber_b4 _ _ _ _ = _
      unfold f_Wk_jointNumber_b4
      rw [f_ck_of h.1.b, h.1.th, if_pos (nI_le (by omega) (by omega))]
      rfl
    | succ k ih =>
      intro t n x ht hn
      obtain ⟨n, rfl⟩ : ∃ m, n = m + 1 := ⟨n - 1, by omega⟩
      show f_Wk_jointNumber_b4 _ _ _ _ = _
      unfold f_Wk_jointNumber_b4
      rw [f_ck_of h.1.b, h.1.th, if_neg (nI_ge (by omega) (by omega)), k_p2 h.1, h.1.pe, nI_mul, nI_add, nI_1]
      exact ih (t + 1) n _ (by omega) (by omega)
  have e := hl (tN (askW V)) 0 zl_fl 0 (by omega) (zl_fl_lt (by omega))
  rw [hj, ak_t] at e
  unfold f_Wk_jointNumber
  exact e
theorem k_joint_h (h : KT (askW V) s) (ha : PA V s) (x1 : Int32) {a : Int32} (hbd : bdI a 110000) : ∀ (k x n l m : Nat), x + k = sOws V → k < n → f_Wk_joint_h54 n x1 (nI (sOws V)) a (nI l) (nI m) (nI x) s = some (if x1 = 0 then nI (jnL (plO V) true a k x l) else nI (jnL (plO V) false a k x m), s) := by
  have hW := askWV h
  have ho := sOws_le hW
  intro k
  induction k with
  | zero =>
    intro x n l m hx hn
    obtain ⟨n, rfl⟩ : ∃ m, n = m + 1 := ⟨n - 1, by omega⟩
    show f_Wk_joint_b54 _ _ _ _ _ _ _ _ = _
    unfold f_Wk_joint_b54 f_Wk_joint_b106
    rw [if_pos (nI_le (by omega) (by omega))]
    show _ = some (if x1 = 0 then nI l else nI m, s)
    by_cases c : x1 = 0
    · rw [if_pos c, if_pos c]
    · rw [if_neg c, if_neg c]
  | succ k ih =>
    intro x n l m hx hn
    obtain ⟨n, rfl⟩ : ∃ m, n = m + 1 := ⟨n - 1, by omega⟩
    have i216 : vp_in (nI x) 216 := vp_in_nI (by omega) (by decide)
    obtain ⟨n1, n2⟩ := plv_none (x := x) hW
    have hi := fun l m => ih (x + 1) n l m (by omega) (by omega)
    show f_Wk_joint_b54 _ _ _ _ _ _ _ _ = some (if x1 = 0 then nI (jnL (plO V) true a k (x + 1) (match plO V x with
      | none => l
      | some v => if cmJ true a v = true then l + 1 else l)) else nI (jnL (plO V) false a k (x + 1) (match plO V x with
      | none => m
      | some v => if cmJ false a v = true then m + 1 else m)), s)
    unfold f_Wk_joint_b54 f_Wk_joint_b86 f_Wk_joint_b100
    rw [if_neg (nI_ge (by omega) (by omega)), f_ck_of h.1.b, f_ck_of i216, f_ck_of i216, nI_clamp (by omega), ha x (by omega)]
    simp only [f_ck_of h.1.b, f_ck_of i216, nI_clamp (show x < 2 ^ 31 by omega), ha x (show x < sOws V by omega), nI_1]
    cases hg : plO V x with
    | none =>
      rw [n1.mpr hg, if_pos rfl]
      have hle : (-1073741824 : Int32) ≤ a := Int32.le_of_lt (Int32.not_le.mp (bd_no hbd).1)
      rw [if_pos hle]
      exact hi l m
    | some v =>
      obtain ⟨e1, hv⟩ := n2 v hg
      rw [e1, if_neg (bd_no hv).2.1]
      unfold cmJ
      by_cases c1 : a ≤ v
      · rw [if_pos c1]
        by_cases c2 : v ≤ a
        · rw [if_pos c2, hi]; simp [c1, c2]
        · rw [if_neg c2, hi]; simp [c1, c2]
      · have c2 : v ≤ a := Int32.le_of_lt (Int32.not_le.mp c1)
        rw [if_neg c1, if_pos c2, hi]; simp [c1, c2]
theorem kq_joint (h : KT (askW V) s) (hp : PL V s) (x : Int32) : QK V s (f_Wk_joint x s) (aJoint V x) := by
  have hW := askWV h
  have ho := sOws_le hW
  have hj := sJn_lt hW
  unfold f_Wk_joint aJoint nB
  simp only [f_ck_of h.1.b, f_bd_of (k_plainCount h.1), sOws_b hW, f_bd_of (k_isWithin (s := s) x 1), ite10]
  by_cases c : bP V = true
  · rw [if_neg (fun h9 => h9 c)]
    by_cases c2 : wi x 0 1 = true
    · obtain ⟨s1, e1, h1, q1, p1, g1⟩ := k_fillAll h hp (sOws_1 c)
      -- the number of the joint owning is one of them
      have hlt : sJn V (tN V) 0 < sOws V := by
        have hb : ∀ k x a, x < a → sJn V k x < sPow (pN V + 2) k a := by
          intro k
          induction k with
          | zero => intro x a hx; exact hx
          | succ k ih =>
            intro x a hx
            refine ih _ _ ?_
            have h1 : (x + 1) * (pN V + 2) ≤ a * (pN V + 2) := Nat.mul_le_mul_right _ hx
            rw [Nat.add_mul, Nat.one_mul] at h1
            omega
        unfold sOws
        have : ¬ pN V = 0 := by unfold bP at c; simp at c; omega
        rw [if_neg this]
        exact hb _ _ _ (by decide)
      have i216 : vp_in (nI (sJn V (tN V) 0)) 216 := vp_in_nI hj (by decide)
      rw [if_pos c2, c, c2, if_pos (show (true && true) = true from rfl), f_bd_of e1, f_ck_of h1.1.b, f_bd_of (k_jointN h1), f_ck_of h1.1.b, f_ck_of i216, nI_clamp (by omega), g1 _ hlt]
      obtain ⟨n1, n2⟩ := plv_none (x := sJn V (tN V) 0) hW
      cases hg : plO V (sJn V (tN V) 0) with
      | none =>
        rw [if_pos (n1.mpr hg)]
        exact ⟨s1, rfl, h1, q1, p1⟩
      | some a =>
        obtain ⟨ea, hbd⟩ := n2 a hg
        rw [ea, if_neg (bd_no hbd).2.1]
        have e := k_joint_h h1 g1 x hbd (sOws V) 0 zl_fl 0 0 (by omega) (zl_fl_lt (by omega))
        refine ⟨s1, Eq.trans e ?_, h1, q1, p1⟩
        by_cases c4 : x = 0
        · rw [if_pos c4]; simp [c4]
        · rw [if_neg c4]; simp [c4]
    · rw [if_neg c2, if_neg (by simp [c2])]; exact QK.mk hp rfl h (K0.rf s)
  · rw [if_pos c, if_neg (by simp [c])]; exact QK.mk hp rfl h (K0.rf s)
def oM (o : Option Int32) : Int32 := match o with
  | none => -1073741824
  | some v => v
def bdO (o : Option Int32) : Prop := ∀ v, o = some v → bdI v 110000
theorem mx_oM {o : Option Int32} (ho : bdO o) {v : Int32} (hv : bdI v 110000) : (if oM o < v then v else oM o) = oM (mxS o v) ∧ bdO (mxS o v) := by
  cases o with
  | none =>
    refine ⟨?_, fun u hu => by cases hu; exact hv⟩
    show (if (-1073741824 : Int32) < v then v else -1073741824) = v
    rw [if_pos (Int32.not_le.mp (bd_no hv).1)]
  | some m =>
    have hm := ho m rfl
    refine ⟨rfl, fun u hu => ?_⟩
    have e : (some (if m < v then v else m) : Option Int32) = some u := hu
    by_cases c : m < v
    · rw [if_pos c] at e; cases e; exact hv
    · rw [if_neg c] at e; cases e; exact hm
theorem mx_no {o : Option Int32} (ho : bdO o) : (if oM o < (-1073741824 : Int32) then (-1073741824 : Int32) else oM o) = oM o := by
  cases o with
  | none => rfl
  | some m =>
    have h1 : ¬ m < (-1073741824 : Int32) := fun h9 => (bd_no (ho m rfl)).1 (Int32.le_of_lt h9)
    show (if m < (-1073741824 : Int32) then (-1073741824 : Int32) else m) = m
    rw [if_neg h1]
theorem k_one_h (h : KT (askW V) s) (ha : PA V s) {a b : Nat} (hha : a < 3) (hhb : b < 3) : ∀ (k x n : Nat) (o : Option Int32 × Option Int32), bdO o.1 → bdO o.2 → x + k = sOws V → k < n → bdO (ohL (plO V) (dgE V a b) k x o).1 ∧ bdO (ohL (plO V) (dgE V a b) k x o).2 ∧ f_Wk_oneHand_h57 n (nI a) (nI b) (nI (sOws V)) (oM o.1) (oM o.2) (nI x) s = f_Wk_oneHand_b117 (oM (ohL (plO V) (dgE V a b) k x o).1) (oM (ohL (plO V) (dgE V a b) k x o).2) s := by
  have hW := askWV h
  have ho := sOws_le hW
  have hp4 := hW.1.2
  intro k
  induction k with
  | zero =>
    intro x n o b1 b2 hx hn
    obtain ⟨n, rfl⟩ : ∃ m, n = m + 1 := ⟨n - 1, by omega⟩
    refine ⟨b1, b2, ?_⟩
    show f_Wk_oneHand_b57 _ _ _ _ _ _ _ _ = _
    unfold f_Wk_oneHand_b57
    rw [if_pos (nI_le (by omega) (by omega))]
    rfl
  | succ k ih =>
    intro x n o b1 b2 hx hn
    obtain ⟨n, rfl⟩ : ∃ m, n = m + 1 := ⟨n - 1, by omega⟩
    have i216 : vp_in (nI x) 216 := vp_in_nI (by omega) (by decide)
    obtain ⟨n1, n2⟩ := plv_none (x := x) hW
    have hd1 := sDig_lt (V := V) hp4 x a
    have hd2 := sDig_lt (V := V) hp4 x b
    have hb3 : bdO (ohS (plO V x) (dgE V a b x) o).1 ∧ bdO (ohS (plO V x) (dgE V a b x) o).2 := by
      unfold ohS
      cases hg : plO V x with
      | none => exact ⟨b1, b2⟩
      | some v =>
        simp only
        split
        · exact ⟨(mx_oM b1 (n2 v hg).2).2, b2⟩
        · exact ⟨b1, (mx_oM b2 (n2 v hg).2).2⟩
    obtain ⟨g1, g2, hi⟩ := ih (x + 1) n (ohS (plO V x) (dgE V a b x) o) hb3.1 hb3.2 (by omega) (by omega)
    refine ⟨g1, g2, Eq.trans ?_ hi⟩
    show f_Wk_oneHand_b57 _ _ _ _ _ _ _ _ = _
    unfold f_Wk_oneHand_b57 f_Wk_oneHand_b111
    simp only [f_ck_of h.1.b, f_bd_of (k_digit h.1 (x := x) (t := a) (by omega) (by omega)), f_bd_of (k_digit h.1 (x := x) (t := b) (by omega) (by omega)), f_ck_of i216, nI_clamp (show x < 2 ^ 31 by omega), ha x (show x < sOws V by omega), nI_1]
    rw [if_neg (nI_ge (by omega) (by omega))]
    cases hg : plO V x with
    | none =>
      rw [n1.mpr hg, mx_no b1, mx_no b2]
      by_cases c : sDig V x a = sDig V x b
      · rw [if_pos (show nI (sDig V x a) = nI (sDig V x b) by rw [c])]; rfl
      · rw [if_neg (show ¬ nI (sDig V x a) = nI (sDig V x b) from nI_neq (by omega) (by omega) c)]; rfl
    | some v =>
      obtain ⟨e1, hv⟩ := n2 v hg
      rw [e1, (mx_oM b1 hv).1, (mx_oM b2 hv).1]
      by_cases c : sDig V x a = sDig V x b
      · have eo : ohS (some v) (dgE V a b x) o = (mxS o.1 v, o.2) := by unfold ohS dgE; simp [c]
        rw [eo, if_pos (show nI (sDig V x a) = nI (sDig V x b) by rw [c])]
      · have eo : ohS (some v) (dgE V a b x) o = (o.1, mxS o.2 v) := by unfold ohS dgE; simp [c]
        rw [eo, if_neg (show ¬ nI (sDig V x a) = nI (sDig V x b) from nI_neq (by omega) (by omega) c)]
theorem kq_oneHand (h : KT (askW V) s) (hp : PL V s) (x1 x2 : Int32) : QK V s (f_Wk_oneHand x1 x2 s) (oB (bOneHand V x1 x2) (aOneHand V x1 x2)) := by
  have hW := askWV h
  have ho := sOws_le hW
  have ht3 := hW.2.1.2
  have hn : (bP V && (xb x1 (tN V) && (xb x2 (tN V) && !decide (x1 = x2)))) = false → QK V s (some ((none : Option Int32), s)) (oB (bOneHand V x1 x2) (aOneHand V x1 x2)) := by
    intro e
    unfold bOneHand
    rw [e]
    exact QK.mk hp rfl h (K0.rf s)
  unfold f_Wk_oneHand
  simp only [f_ck_of h.1.b, f_bd_of (k_plainCount h.1), sOws_b hW, f_bd_of (k_isThing h.1 x1), f_bd_of (k_isThing h.1 x2), ite10, ak_t]
  by_cases c : bP V = true
  · rw [if_neg (fun h9 => h9 c)]
    by_cases c1 : xb x1 (tN V) = true
    · rw [if_pos c1]
      by_cases c2 : xb x2 (tN V) = true
      · rw [if_pos c2]
        by_cases c3 : x1 = x2
        · rw [if_pos c3]; exact hn (by simp [c3])
        · have hall : (bP V && (xb x1 (tN V) && (xb x2 (tN V) && !decide (x1 = x2)))) = true := by simp [c, c1, c2, c3]
          rw [if_neg c3]
          obtain ⟨a, ha, rfl⟩ := xb_t c1 (by omega)
          obtain ⟨b, hb, rfl⟩ := xb_t c2 (by omega)
          obtain ⟨s1, e1, h1, q1, p1, g1⟩ := k_fillAll h hp (sOws_1 c)
          obtain ⟨b1, b2, e2⟩ := k_one_h h1 g1 (a := a) (b := b) (by omega) (by omega) (sOws V) 0 zl_fl (none, none) (fun v hv => by cases hv) (fun v hv => by cases hv) (by omega) (zl_fl_lt (by omega))
          rw [f_bd_of e1]
          have e2' : f_Wk_oneHand_h57 zl_fl (nI a) (nI b) (nI (sOws V)) (-1073741824) (-1073741824) 0 s1 = _ := e2
          rw [e2']
          unfold bOneHand aOneHand ohR
          rw [hall, nI_clamp (by omega), nI_clamp (by omega), Bool.true_and]
          unfold f_Wk_oneHand_b117
          generalize ohL (plO V) (dgE V a b) (sOws V) 0 (none, none) = o at b1 b2 ⊢
          obtain ⟨o1, o2⟩ := o
          cases o1 with
          | none =>
            rw [if_pos (show oM none = -1073741824 from rfl)]
            exact ⟨s1, rfl, h1, q1, p1⟩
          | some y =>
            rw [if_neg (show ¬ oM (some y) = -1073741824 from (bd_no (b1 y rfl)).2.1)]
            cases o2 with
            | none =>
              rw [if_pos (show oM none = -1073741824 from rfl)]
              exact ⟨s1, rfl, h1, q1, p1⟩
            | some z =>
              rw [if_neg (show ¬ oM (some z) = -1073741824 from (bd_no (b2 z rfl)).2.1)]
              exact ⟨s1, rfl, h1, q1, p1⟩
      · rw [if_neg c2]; exact hn (by simp [c2])
    · rw [if_neg c1]; exact hn (by simp [c1])
  · rw [if_pos c]; exact hn (by simp [c])
end
