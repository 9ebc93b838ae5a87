/-! what the answers hang on -/
section
def eqT (W X : Vw) : Prop := (∀ b j, trp b j = false → b ≠ 69 → b ≠ 70 → ¬ (b = 47 ∨ 76 ≤ b ∨ (b = 46 ∧ j = 1) ∨ (b = 50 ∧ 16 ≤ j)) → X b j = W b j) ∧ X 46 39 = W 46 39 ∧ (W 46 39 = 10 ∨ X 46 38 = W 46 38)
def eqC (W X : Vw) (r : Nat) : Prop := ∀ t, t < tN W → X 74 (r + t) = W 74 (r + t) ∧ X 75 (r + t) = W 75 (r + t)
def eqQ (W X : Vw) : Prop := eqT W X ∧ eqC W X 0 ∧ eqC W X 3 ∧ X 46 50 = W 46 50 ∧ (W 46 50 = 0 ∨ (eqC W X 6 ∧ eqC W X 9 ∧ X 46 51 = W 46 51 ∧ X 46 52 = W 46 52 ∧ X 46 53 = W 46 53 ∧ ∀ t, X 69 t = W 69 t))
variable {W X : Vw}
theorem cg_pN (h : eqT W X) : pN X = pN W := by unfold pN; rw [h.1 46 10 rfl (by decide) (by decide) (by omega)]
theorem cg_tN (h : eqT W X) : tN X = tN W := by unfold tN; rw [h.1 46 11 rfl (by decide) (by decide) (by omega)]
theorem cg_kN (h : eqT W X) : kN X = kN W := by unfold kN; rw [h.1 46 12 rfl (by decide) (by decide) (by omega)]
theorem cg_sN (h : eqT W X) (p : Nat) : sN X p = sN W p := by unfold sN; rw [h.1 49 p rfl (by decide) (by decide) (by omega)]
theorem cg_vpa (h : eqT W X) (q : Nat) : vpa X q = vpa W q := by
  unfold vpa
  rw [cg_pN h]
  simp only [cg_sN h]
theorem cg_sVal (h : eqT W X) (q l : Nat) : sVal X q l = sVal W q l := by
  unfold sVal
  rw [h.2.1, h.1 68 _ rfl (by decide) (by decide) (by omega)]
  rcases h.2.2 with e | e
  · rw [if_pos e, if_pos e]
  · rw [e]
theorem cg_sIn (h : eqT W X) (x1 x2 : Int32) (l : Nat) : sIn X x1 x2 l = sIn W x1 x2 l := by
  unfold sIn
  rw [h.1 51 _ rfl (by decide) (by decide) (by omega), h.1 52 _ rfl (by decide) (by decide) (by omega)]
theorem cg_sSum (h : eqT W X) (x1 x2 : Int32) (q : Nat) : ∀ (k l : Nat) (a : Int64), sSum X x1 x2 q k l a = sSum W x1 x2 q k l a := by
  intro k
  induction k with
  | zero => intro l a; rfl
  | succ k ih =>
    intro l a
    show sSum X x1 x2 q k (l + 1) (if sIn X x1 x2 l = true then a + sVal X q l else a) = sSum W x1 x2 q k (l + 1) (if sIn W x1 x2 l = true then a + sVal W q l else a)
    rw [cg_sIn h, cg_sVal h, ih]
theorem cg_sWo (h : eqT W X) (x1 x2 : Int32) (q : Nat) : sWo X x1 x2 q = sWo W x1 x2 q := by unfold sWo; rw [cg_kN h, cg_sSum h]
theorem cg_sGoodL (h : eqT W X) (q : Nat) : ∀ (k p : Nat) (a : Int32), sGoodL X q k p a = sGoodL W q k p a := by
  intro k
  induction k with
  | zero => intro p a; rfl
  | succ k ih =>
    intro p a
    show sGoodL X q k (p + 1) (a - X 50 ((4 * p + sStep q p) % 16)) = sGoodL W q k (p + 1) (a - W 50 ((4 * p + sStep q p) % 16))
    rw [h.1 50 _ rfl (by decide) (by decide) (by omega), ih]
theorem cg_sGood (h : eqT W X) (q : Nat) : sGood X q = sGood W q := by unfold sGood; rw [cg_pN h, cg_tN h, cg_sWo h, cg_sGoodL h]
theorem cg_sBestL (h : eqT W X) : ∀ (k q b : Nat), sBestL X k q b = sBestL W k q b := by
  intro k
  induction k with
  | zero => intro q b; rfl
  | succ k ih =>
    intro q b
    show (if vpa X q = true then (if sGood X q ≤ sGood X b then sBestL X k (q + 1) b else sBestL X k (q + 1) q) else sBestL X k (q + 1) b) = (if vpa W q = true then (if sGood W q ≤ sGood W b then sBestL W k (q + 1) b else sBestL W k (q + 1) q) else sBestL W k (q + 1) b)
    rw [cg_vpa h, cg_sGood h, cg_sGood h, ih, ih]
theorem cg_sBest (h : eqT W X) : sBest X = sBest W := by unfold sBest; rw [cg_pN h, cg_sBestL h]
theorem cg_sHasL (h : eqT W X) {r : Nat} (c : eqC W X r) (u : Nat) : ∀ (k t a : Nat), t + k ≤ tN W → sHasL X r u k t a = sHasL W r u k t a := by
  intro k
  induction k with
  | zero => intro t a _; rfl
  | succ k ih =>
    intro t a ht
    show sHasL X r u k (t + 1) (a ||| (if sHo X r u t = true then 2 ^ t else 0)) = sHasL W r u k (t + 1) (a ||| (if sHo W r u t = true then 2 ^ t else 0))
    have e : sHo X r u t = sHo W r u t := by
      unfold sHo cN
      rw [(c t (by omega)).1, (c t (by omega)).2, cg_pN h]
    rw [e, ih _ _ (by omega)]
theorem cg_sHas (h : eqT W X) {r : Nat} (c : eqC W X r) (u : Nat) : sHas X r u = sHas W r u := by unfold sHas; rw [cg_tN h, cg_sHasL h c u _ _ _ (by omega)]
theorem cg_sMk (h : eqT W X) {r : Nat} (c : eqC W X r) (u q : Nat) : sMk X r u q = sMk W r u q := by unfold sMk; rw [cg_sHas h c, cg_sWo h]
theorem cg_sAllO (h : eqT W X) {r : Nat} (c : eqC W X r) (p q : Nat) : ∀ (k u : Nat) (a : Int64), sAllO X r p q k u a = sAllO W r p q k u a := by
  intro k
  induction k with
  | zero => intro u a; rfl
  | succ k ih =>
    intro u a
    show sAllO X r p q k (u + 1) (if u / 2 ^ p % 2 = 1 then a else a + (sMk X r (u ||| 2 ^ p) q - sMk X r u q).toInt64 * (nI (sOrd (sBits u))).toInt64 * (nI (sOrd (pN X - 1 - sBits u))).toInt64) = sAllO W r p q k (u + 1) (if u / 2 ^ p % 2 = 1 then a else a + (sMk W r (u ||| 2 ^ p) q - sMk W r u q).toInt64 * (nI (sOrd (sBits u))).toInt64 * (nI (sOrd (pN W - 1 - sBits u))).toInt64)
    rw [cg_pN h, cg_sMk h c, cg_sMk h c, ih]
theorem cg_sOnes (h : eqT W X) {r : Nat} (c : eqC W X r) (q : Nat) : ∀ (k p : Nat) (a : Int64), sOnes X r q k p a = sOnes W r q k p a := by
  intro k
  induction k with
  | zero => intro p a; rfl
  | succ k ih =>
    intro p a
    show sOnes X r q k (p + 1) (a + (sMk X r (2 ^ p) q).toInt64) = sOnes W r q k (p + 1) (a + (sMk W r (2 ^ p) q).toInt64)
    rw [cg_sMk h c, ih]
theorem cg_sShB (h : eqT W X) {r : Nat} (c : eqC W X r) (p q : Nat) : sShB X r p q = sShB W r p q := by
  unfold sShB sRest
  rw [cg_pN h, cg_sAllO h c, cg_sOnes h c, cg_sMk h c, cg_sMk h c, h.1 46 46 rfl (by decide) (by decide) (by omega), h.1 46 47 rfl (by decide) (by decide) (by omega)]
theorem cg_sShI (h : eqT W X) {r : Nat} (c : eqC W X r) (c3 : eqC W X (r + 3)) (p q : Nat) : sShI X r p q = sShI W r p q := by
  unfold sShI
  rw [cg_sShB h c, cg_sShB h c3, h.1 46 45 rfl (by decide) (by decide) (by omega)]
theorem cg_sHasOf (h : eqQ W X) (p q : Nat) : sHasOf X p q = sHasOf W p q := by
  obtain ⟨hT, c0, c3, e50, hm⟩ := h
  have k0 := fun p q => cg_sShI hT c0 c3 p q
  have kC : sCost X p q = sCost W p q := by unfold sCost; rw [hT.1 50 _ rfl (by decide) (by decide) (by omega)]
  unfold sHasOf
  rw [e50, kC]
  rcases hm with hm | ⟨c6, c9, e51, e52, e53, e69⟩
  · rw [if_neg (by rw [hm]; decide), if_neg (by rw [hm]; decide), if_neg (by rw [hm]; decide), if_neg (by rw [hm]; decide), k0]
  · have k6 := fun p q => cg_sShI hT c6 c9 p q
    have eS : mS X = mS W := by unfold mS; rw [e53]
    have eP : ∀ p, sPay X p = sPay W p := fun p => by unfold sPay cN; rw [e52, e69, eS]
    have eO : sOwe X p = sOwe W p := by unfold sOwe; rw [e51, eS]
    have eB : sBought X q = sBought W q := by unfold sBought cN; rw [e51, k6, k0, eS, eP]
    have eA : sPaid X q = sPaid W q := by unfold sPaid cN; rw [e51, k0, eS]
    rw [eB, eA, k6, k0, eP, eO]
theorem cg_sWldL (h : eqQ W X) (p q : Nat) : ∀ (k st b : Nat) (m : Int64), sWldL X p q k st b m = sWldL W p q k st b m := by
  intro k
  induction k with
  | zero => intro st b m; rfl
  | succ k ih =>
    intro st b m
    show (if sHasOf X p (sTk q p st) ≤ m then sWldL X p q k (st + 1) b m else sWldL X p q k (st + 1) st (sHasOf X p (sTk q p st))) = (if sHasOf W p (sTk q p st) ≤ m then sWldL W p q k (st + 1) b m else sWldL W p q k (st + 1) st (sHasOf W p (sTk q p st)))
    rw [cg_sHasOf h, ih, ih]
theorem cg_sWld (h : eqQ W X) (p q : Nat) : sWld X p q = sWld W p q := by unfold sWld; rw [cg_sN h.1, cg_sHasOf h, cg_sWldL h]
theorem cg_sStays (h : eqQ W X) (p q : Nat) : sStays X p q = sStays W p q := by unfold sStays; rw [cg_sWld h, cg_sHasOf h, cg_sHasOf h]
theorem cg_sRestS (h : eqQ W X) (q : Nat) : sRestS X q = sRestS W q := by unfold sRestS; rw [cg_pN h.1]; simp only [cg_sStays h]
theorem cg_sTrn (h : eqQ W X) (kp : Nat) : ∀ (k p q : Nat) (ch : Bool), sTrn X kp k p q ch = sTrn W kp k p q ch := by
  intro k
  induction k with
  | zero => intro p q ch; rfl
  | succ k ih =>
    intro p q ch
    show (if p = kp ∨ sStays X p q = true then sTrn X kp k (p + 1) q ch else sTrn X kp k (p + 1) (sTk q p (sWld X p q)) true) = (if p = kp ∨ sStays W p q = true then sTrn W kp k (p + 1) q ch else sTrn W kp k (p + 1) (sTk q p (sWld W p q)) true)
    rw [cg_sStays h, cg_sWld h, ih, ih]
theorem cg_sOut (h : eqQ W X) (kp : Nat) : ∀ (k r q : Nat), sOut X kp k r q = sOut W kp k r q := by
  intro k
  induction k with
  | zero => intro r q; rfl
  | succ k ih =>
    intro r q
    show (if (sTrn X kp (pN X) 0 q false).2 = true then sOut X kp k (r + 1) (sTrn X kp (pN X) 0 q false).1 else some ((sTrn X kp (pN X) 0 q false).1, r)) = (if (sTrn W kp (pN W) 0 q false).2 = true then sOut W kp k (r + 1) (sTrn W kp (pN W) 0 q false).1 else some ((sTrn W kp (pN W) 0 q false).1, r))
    rw [cg_pN h.1, cg_sTrn h, ih]
theorem cg_sFar (h : eqQ W X) (kp q : Nat) : sFar X kp q = sFar W kp q := cg_sOut h kp 30 1 q
end
