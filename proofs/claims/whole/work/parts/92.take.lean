/-! works: the class takes a token -/
section
variable {s s' s1 s2 : Sg} {T : Nat → Nat} {n p : Nat}
/-- what may have been written -/
def FR (A B : Nat → Nat → Prop) (s s' : Sg) : Prop := (mN s' = mN s ∧ s'.2.2.1 = s.2.2.1) ∧ (∀ a k, ¬ A a k → mI s' a k = mI s a k) ∧ (∀ a k, ¬ B a k → mL s' a k = mL s a k)
variable {A B A' B' : Nat → Nat → Prop}
theorem FR.rf (A B : Nat → Nat → Prop) (s : Sg) : FR A B s s := ⟨⟨rfl, rfl⟩, fun _ _ _ => rfl, fun _ _ _ => rfl⟩
theorem FR.tr (h : FR A B s s1) (k : FR A B s1 s2) : FR A B s s2 := ⟨⟨k.1.1.trans h.1.1, k.1.2.trans h.1.2⟩, fun a j ha => (k.2.1 a j ha).trans (h.2.1 a j ha), fun a j ha => (k.2.2 a j ha).trans (h.2.2 a j ha)⟩
theorem FR.mo (h : FR A B s s') (ha : ∀ a k, A a k → A' a k) (hb : ∀ a k, B a k → B' a k) : FR A' B' s s' := ⟨h.1, fun a k g => h.2.1 a k (fun q => g (ha a k q)), fun a k g => h.2.2 a k (fun q => g (hb a k q))⟩
theorem FR.b (h : FR A B s s') (hb : zl_B s) : zl_B s' := ⟨by rw [h.1.1]; exact hb.1, by rw [h.1.2]; exact hb.2⟩
theorem FR.r (h : FR A B s s') (a k : Nat) : mR s' a k = mR s a k := congrFun (congrFun h.1.2 a) k
theorem fr_uI (s : Sg) {a k : Nat} (x : Int32) (h : A a k) : FR A B s (uI s a k x) := ⟨⟨rfl, rfl⟩, fun b j g => mI_ne _ _ (fun e => g (by rw [e.1, e.2]; exact h)), fun _ _ _ => rfl⟩
theorem fr_uL (s : Sg) {a k : Nat} (x : Int64) (h : B a k) : FR A B s (uL s a k x) := ⟨⟨rfl, rfl⟩, fun _ _ _ => rfl, fun b j g => mL_ne _ _ (fun e => g (by rw [e.1, e.2]; exact h))⟩
/-- the class's tape -/
def CTx (T : Nat → Nat) (n : Nat) (s : Sg) : Prop := zl_B s ∧ n ≤ 1000 ∧ mI s 42 2 = nI n ∧ (∀ k, k < n → mI s 43 k = nI (T k) ∧ T k < 127) ∧ RG s
theorem CTx.b (h : CTx T n s) : zl_B s := h.1
theorem CTx.f (h : CTx T n s) (f : FR A B s s') (h2 : ¬ A 42 2) (h43 : ∀ k, ¬ A 43 k) (h3 : ∀ k, ¬ A 3 k) : CTx T n s' :=
  ⟨f.b h.1, h.2.1, (f.2.1 _ _ h2).trans h.2.2.1, fun k hk => ⟨(f.2.1 _ _ (h43 k)).trans (h.2.2.2.1 k hk).1, (h.2.2.2.1 k hk).2⟩, fun k => (f.2.1 _ _ (h3 k)).trans (h.2.2.2.2 k)⟩
def cA (a k : Nat) : Prop := a = 42 ∧ 3 ≤ k ∧ k ≤ 6
def cB (a k : Nat) : Prop := a = 42 ∧ k = 7
theorem CTx.c (h : CTx T n s) (f : FR cA cB s s') : CTx T n s' := h.f f (fun e => absurd e.2.1 (by decide)) (fun k e => absurd e.1 (by decide)) (fun k e => absurd e.1 (by decide))
theorem nI_lt_lit {c b : Nat} (hc : c < 2 ^ 31) (hb : b < 2 ^ 31) : (nI c < nI b) ↔ c < b := nI_ltI hc hb
theorem k_isL {c : Nat} (hc : c < 127) : f_Rd_isLetter (nI c) s = some (if isL c = true then 1 else 0, s) := by
  unfold f_Rd_isLetter
  by_cases h1 : c < 97
  · rw [if_pos (show nI c < 97 from nI_lt (b := 97) h1 (by decide)), if_neg (by rw [isL_t]; omega)]
  · rw [if_neg (show ¬ nI c < 97 from nI_nlt (b := 97) (by omega) (by omega))]
    by_cases h2 : 122 < c
    · rw [if_pos (show (122 : Int32) < nI c from nI_lt (a := 122) h2 (by omega)), if_neg (by rw [isL_t]; omega)]
    · rw [if_neg (show ¬ (122 : Int32) < nI c from nI_nlt (a := 122) (by omega) (by decide)), if_pos (isL_t.mpr (by omega))]
theorem k_isD {c : Nat} (hc : c < 127) : f_Rd_isDigit (nI c) s = some (if isD c = true then 1 else 0, s) := by
  unfold f_Rd_isDigit
  by_cases h1 : c < 48
  · rw [if_pos (show nI c < 48 from nI_lt (b := 48) h1 (by decide)), if_neg (by rw [isD_t]; omega)]
  · rw [if_neg (show ¬ nI c < 48 from nI_nlt (b := 48) (by omega) (by omega))]
    by_cases h2 : 57 < c
    · rw [if_pos (show (57 : Int32) < nI c from nI_lt (a := 57) h2 (by omega)), if_neg (by rw [isD_t]; omega)]
    · rw [if_neg (show ¬ (57 : Int32) < nI c from nI_nlt (a := 57) (by omega) (by decide)), if_pos (isD_t.mpr (by omega))]
theorem i8_id : ∀ c, c < 128 → (Int32.toInt8 (nI c)).toInt32 = nI c := by decide +kernel
theorem isS_by : ∀ c, c < 128 → (isS c = true ↔ ∃ i, i < 8 ∧ zs_by i = nI c) := by decide +kernel
theorem k_ix_h (hG : RG s) {c : Nat} : ∀ (k j F : Nat), j + k = 8 → k < F → ∃ r, f_Sl_indexOfChar_h7 F 8 (nI c) (nI j) s = some (r, s) ∧ (r < 0 ↔ ∀ i, j ≤ i → i < 8 → zs_by i ≠ nI c) := by
  intro k
  induction k with
  | zero =>
    intro j F hj hF
    obtain ⟨F, rfl⟩ : ∃ m, F = m + 1 := ⟨F - 1, by omega⟩
    obtain rfl : j = 8 := by omega
    refine ⟨-1, ?_, ⟨fun _ i h1 h2 => absurd h2 (by omega), fun _ => by decide⟩⟩
    show f_Sl_indexOfChar_b7 _ _ _ _ _ = _
    unfold f_Sl_indexOfChar_b7
    rw [if_pos (by decide)]
  | succ k ih =>
    intro j F hj hF
    obtain ⟨F, rfl⟩ : ∃ m, F = m + 1 := ⟨F - 1, by omega⟩
    have hs : ∃ r, f_Sl_indexOfChar_b7 (f_Sl_indexOfChar_h7 F) 8 (nI c) (nI j) s = some (r, s) ∧ (r < 0 ↔ ∀ i, j ≤ i → i < 8 → zs_by i ≠ nI c) := by
      unfold f_Sl_indexOfChar_b7
      rw [if_neg (show ¬ (8 : Int32) ≤ nI j from nI_ge (b := 8) (by omega) (by decide)), f_ck_of (vp_in_nI (by omega) (by decide)), nI_clamp (by omega), hG j]
      by_cases c1 : zs_by j = nI c
      · rw [if_pos c1]
        refine ⟨_, rfl, ⟨fun h => absurd h (nI_pos (by omega)), fun h => absurd c1 (h j (Nat.le_refl _) (by omega))⟩⟩
      · rw [if_neg c1, nI_1]
        obtain ⟨r, e, h⟩ := ih (j + 1) F (by omega) (by omega)
        refine ⟨r, e, h.trans ⟨fun g i h1 h2 => ?_, fun g i h1 h2 => g i (by omega) h2⟩⟩
        by_cases q : i = j
        · rw [q]; exact c1
        · exact g i (by omega) h2
    exact hs
theorem k_ix (hG : RG s) {c : Nat} (hc : c < 127) : ∃ r, f_St_indexOf_II (nI c) s = some (r, s) ∧ (r < 0 ↔ ¬ isS c = true) := by
  obtain ⟨r, e, h⟩ := k_ix_h hG (c := c) 8 0 zl_fl (by decide) (zl_fl_lt (by decide))
  refine ⟨r, ?_, h.trans ⟨fun g q => ?_, fun g i h1 h2 q => g ((isS_by c (by omega)).mpr ⟨i, h2, q⟩)⟩⟩
  · have e1 : f_St_length s = some (8, s) := by
      unfold f_St_length
      refine (f_bd_of (show f_St_coder s = some (0, s) from rfl)).trans ?_
      rw [show (8 : Int32) >>> ((0 : Int32) &&& 31) = 8 by decide]
    have e2 : f_Sl_canEncode (nI c) s = some (1, s) := by
      unfold f_Sl_canEncode
      rw [if_neg (nI_pos (by omega)), if_neg (show ¬ (255 : Int32) < nI c from nI_nlt (a := 255) (by omega) (by decide))]
    have e3 : f_Sl_indexOfChar (nI c) 0 8 s = some (r, s) := by
      unfold f_Sl_indexOfChar
      rw [i8_id c (by omega)]
      exact e
    have e4 : f_Sl_indexOf (nI c) 0 8 s = some (r, s) := by
      unfold f_Sl_indexOf
      refine (f_bd_of e2).trans ?_
      rw [if_neg (by decide), if_pos (by decide)]
      exact (f_bd_of e3).trans rfl
    have e5 : f_St_indexOf_III (nI c) 0 s = some (r, s) := by
      unfold f_St_indexOf_III
      refine (f_bd_of (show f_St_isLatin1 s = some (1, s) from rfl)).trans ?_
      rw [if_neg (by decide)]
      exact (f_bd_of e1).trans ((f_bd_of e4).trans rfl)
    unfold f_St_indexOf_II
    exact (f_bd_of e5).trans rfl
  · obtain ⟨i, h1, h2⟩ := (isS_by c (by omega)).mp q
    exact g i (Nat.zero_le _) h1 h2
/-- blanks -/
theorem k_sk : ∀ (f p F : Nat) (s : Sg), CTx T n s → p ≤ n → n ≤ p + f → f < F → mI s 42 3 = nI p → ∃ s', f_Rd_take_h0 F s = f_Rd_take_b52 s' ∧ FR cA cB s s' ∧ mI s' 42 3 = nI (run T n isB f p) := by
  intro f
  induction f with
  | zero =>
    intro p F s h hp hf hF h3
    obtain ⟨F, rfl⟩ : ∃ m, F = m + 1 := ⟨F - 1, by omega⟩
    obtain rfl : p = n := by omega
    refine ⟨s, ?_, FR.rf _ _ _, h3⟩
    show f_Rd_take_b0 _ _ = _
    unfold f_Rd_take_b0
    rw [f_ck_of h.b, h3, h.2.2.1, if_pos (nI_le (Nat.le_refl _) (by have := h.2.1; omega))]
  | succ f ih =>
    intro p F s h hp hf hF h3
    obtain ⟨F, rfl⟩ : ∃ m, F = m + 1 := ⟨F - 1, by omega⟩
    have hn := h.2.1
    show ∃ s', f_Rd_take_b0 _ _ = _ ∧ _
    unfold f_Rd_take_b0 run
    by_cases c : p < n
    · obtain ⟨e1, e2⟩ := h.2.2.2.1 p c
      rw [f_ck_of h.b, h3, h.2.2.1, if_neg (nI_ge c (by omega)), f_ck_of (vp_in_nI (by omega) (by decide)), nI_clamp (by omega), e1]
      have hgo : ∃ s', f_Rd_take_b39 (f_Rd_take_h0 F) s = f_Rd_take_b52 s' ∧ FR cA cB s s' ∧ mI s' 42 3 = nI (run T n isB f (p + 1)) := by
        have f1 : FR cA cB s (uI s 42 3 (nI (p + 1))) := fr_uI s _ ⟨rfl, by decide, by decide⟩
        obtain ⟨s', e4, f4, h4⟩ := ih (p + 1) F _ (h.c f1) c (by omega) (by omega) (mI_at _ _ _ _)
        refine ⟨s', ?_, f1.tr f4, h4⟩
        unfold f_Rd_take_b39
        rw [f_ck_of h.b, h3, nI_1]
        exact e4
      by_cases c1 : T p = 32
      · rw [if_pos (show nI (T p) = 32 by rw [c1]; rfl), if_pos ⟨c, isB_t.mpr (Or.inl c1)⟩]
        exact hgo
      · rw [if_neg (show ¬ nI (T p) = 32 from fun g => c1 ((nI_eq (b := 32) (by omega) (by decide)).mp g)), f_ck_of (vp_in_nI (by omega) (by decide))]
        by_cases c2 : T p = 10
        · rw [if_pos (show nI (T p) = 10 by rw [c2]; rfl), if_pos ⟨c, isB_t.mpr (Or.inr c2)⟩]
          exact hgo
        · rw [if_neg (show ¬ nI (T p) = 10 from fun g => c2 ((nI_eq (b := 10) (by omega) (by decide)).mp g)), if_neg (fun g => by have := isB_t.mp g.2; omega)]
          exact ⟨s, rfl, FR.rf _ _ _, h3⟩
    · obtain rfl : p = n := by omega
      rw [f_ck_of h.b, h3, h.2.2.1, if_pos (nI_le (Nat.le_refl _) (by omega)), if_neg (fun g => c g.1)]
      exact ⟨s, rfl, FR.rf _ _ _, h3⟩
theorem shl_or {x c : Nat} (hx : x < 2 ^ 55) (hc : c < 256) : ((lN x) <<< (Int32.toInt64 8 &&& 63)) ||| (Int32.toInt64 (nI c)) = lN (x * 256 + c) := by
  have e1 : Int32.toInt64 (nI c) = lN c := nI_l (by omega)
  rw [e1, show (Int32.toInt64 8 &&& 63 : Int64) = 8 by decide]
  apply Int64.toBitVec_inj.mp
  apply BitVec.eq_of_toNat_eq
  have hl : ∀ m : Nat, m < 2 ^ 63 → (lN m).toBitVec.toNat = m := fun m hm => by
    show (BitVec.ofNat 64 m).toNat = m
    rw [BitVec.toNat_ofNat, Nat.mod_eq_of_lt (by omega)]
  rw [Int64.toBitVec_or, Int64.toBitVec_shiftLeft, BitVec.toNat_or, hl c (by omega), hl (x * 256 + c) (by omega)]
  have e2 : ((lN x).toBitVec <<< ((8 : Int64).toBitVec.smod 64)).toNat = x * 256 := by
    rw [show ((8 : Int64).toBitVec.smod 64) = 8#64 by decide, BitVec.shiftLeft_eq', BitVec.toNat_shiftLeft, hl x (by omega), show (8#64).toNat = 8 by decide, Nat.shiftLeft_eq, Nat.mod_eq_of_lt (by omega)]
  rw [e2]
  have e3 := Nat.shiftLeft_add_eq_or_of_lt (a := x) (b := c) (i := 8) (by omega)
  rw [Nat.shiftLeft_eq] at e3
  exact e3.symm
/-- letters -/
theorem k_wl {st : Nat} : ∀ (f q F : Nat) (s : Sg), CTx T n s → q ≤ n → n ≤ q + f → f < F → st ≤ q → (∀ j, st ≤ j → j < q → isL (T j) = true) → mI s 42 3 = nI q → (q - st ≤ 8 → mL s 42 7 = lN (pv (fun j => T (st + j)) (q - st))) →
    ∃ s', f_Rd_takeWord_h5 F s = f_Rd_takeWord_b66 s' ∧ FR cA cB s s' ∧ mI s' 42 3 = nI (run T n isL f q) ∧ mI s' 42 5 = mI s 42 5 ∧ (run T n isL f q - st ≤ 8 → mL s' 42 7 = lN (pv (fun j => T (st + j)) (run T n isL f q - st))) := by
  intro f
  induction f with
  | zero =>
    intro q F s h hq hf hF hst hl h3 h7
    obtain ⟨F, rfl⟩ : ∃ m, F = m + 1 := ⟨F - 1, by omega⟩
    obtain rfl : q = n := by omega
    refine ⟨s, ?_, FR.rf _ _ _, h3, rfl, h7⟩
    show f_Rd_takeWord_b5 _ _ = _
    unfold f_Rd_takeWord_b5
    rw [f_ck_of h.b, h3, h.2.2.1, if_pos (nI_le (Nat.le_refl _) (by have := h.2.1; omega))]
  | succ f ih =>
    intro q F s h hq hf hF hst hl h3 h7
    obtain ⟨F, rfl⟩ : ∃ m, F = m + 1 := ⟨F - 1, by omega⟩
    have hn := h.2.1
    show ∃ s', f_Rd_takeWord_b5 _ _ = _ ∧ _
    unfold f_Rd_takeWord_b5 run
    by_cases c : q < n
    · obtain ⟨e1, e2⟩ := h.2.2.2.1 q c
      rw [f_ck_of h.b, h3, h.2.2.1, if_neg (nI_ge c (by omega)), f_ck_of (vp_in_nI (by omega) (by decide)), nI_clamp (by omega), e1, f_bd_of (k_isL e2)]
      by_cases c1 : isL (T q) = true
      · have c2 := isL_t.mp c1
        have f1 : FR cA cB s (uI (uL s 42 7 ((mL s 42 7 <<< (Int32.toInt64 8 &&& 63)) ||| Int32.toInt64 (nI (T q)))) 42 3 (nI (q + 1))) := (fr_uL s _ ⟨rfl, rfl⟩).tr (fr_uI _ _ ⟨rfl, by decide, by decide⟩)
        obtain ⟨s', e4, f4, h4, h5, h6⟩ := ih (q + 1) F _ (h.c f1) c (by omega) (by omega) (by omega) (fun j h1 h2 => by
          by_cases e : j = q
          · rw [e]; exact c1
          · exact hl j h1 (by omega)) (mI_at _ _ _ _) (fun h8 => by
            show mL (uL s 42 7 _) 42 7 = _
            rw [mL_at, h7 (by omega), shl_or (pv_55 (fun j hj => isL_t.mp (hl (st + j) (by omega) (by omega))) (by omega)) (by omega), show q + 1 - st = (q - st) + 1 by omega]
            show _ = lN (pv (fun j => T (st + j)) (q - st) * 256 + T (st + (q - st)))
            rw [show st + (q - st) = q by omega])
        rw [if_pos c1, if_neg (by decide), if_pos ⟨c, c1⟩]
        refine ⟨s', ?_, f1.tr f4, h4, h5.trans (mI_ne _ _ (by omega)), h6⟩
        refine ck_t h.b (ck_t (by rw [h3]; exact vp_in_nI (by omega) (by decide)) ?_)
        simp only [h3, nI_clamp (show q < 2 ^ 31 by omega), e1]
        have e9 : mI (uL s 42 7 ((mL s 42 7 <<< (Int32.toInt64 8 &&& 63)) ||| Int32.toInt64 (nI (T q)))) 42 3 = nI q := h3
        rw [e9, nI_1]
        exact e4
      · rw [if_neg c1, if_pos rfl, if_neg (fun g => c1 g.2)]
        exact ⟨s, rfl, FR.rf _ _ _, h3, rfl, h7⟩
    · obtain rfl : q = n := by omega
      rw [f_ck_of h.b, h3, h.2.2.1, if_pos (nI_le (Nat.le_refl _) (by omega)), if_neg (fun g => c g.1)]
      exact ⟨s, rfl, FR.rf _ _ _, h3, rfl, h7⟩
/-- digits -/
theorem k_nl {st : Nat} : ∀ (f q F : Nat) (s : Sg), CTx T n s → q ≤ n → n ≤ q + f → f < F → st ≤ q → (∀ j, st ≤ j → j < q → isD (T j) = true) → mI s 42 3 = nI q → (q - st ≤ 4 → mI s 42 6 = nI (nv (fun j => T (st + j)) (q - st))) →
    ∃ s', f_Rd_takeNumber_h5 F s = f_Rd_takeNumber_b68 s' ∧ FR cA cB s s' ∧ mI s' 42 3 = nI (run T n isD f q) ∧ mI s' 42 5 = mI s 42 5 ∧ (run T n isD f q - st ≤ 4 → mI s' 42 6 = nI (nv (fun j => T (st + j)) (run T n isD f q - st))) := by
  intro f
  induction f with
  | zero =>
    intro q F s h hq hf hF hst hl h3 h7
    obtain ⟨F, rfl⟩ : ∃ m, F = m + 1 := ⟨F - 1, by omega⟩
    obtain rfl : q = n := by omega
    refine ⟨s, ?_, FR.rf _ _ _, h3, rfl, h7⟩
    show f_Rd_takeNumber_b5 _ _ = _
    unfold f_Rd_takeNumber_b5
    rw [f_ck_of h.b, h3, h.2.2.1, if_pos (nI_le (Nat.le_refl _) (by have := h.2.1; omega))]
  | succ f ih =>
    intro q F s h hq hf hF hst hl h3 h7
    obtain ⟨F, rfl⟩ : ∃ m, F = m + 1 := ⟨F - 1, by omega⟩
    have hn := h.2.1
    show ∃ s', f_Rd_takeNumber_b5 _ _ = _ ∧ _
    unfold f_Rd_takeNumber_b5 run
    by_cases c : q < n
    · obtain ⟨e1, e2⟩ := h.2.2.2.1 q c
      rw [f_ck_of h.b, h3, h.2.2.1, if_neg (nI_ge c (by omega)), f_ck_of (vp_in_nI (by omega) (by decide)), nI_clamp (by omega), e1, f_bd_of (k_isD e2)]
      by_cases c1 : isD (T q) = true
      · have c2 := isD_t.mp c1
        have f1 : FR cA cB s (uI (uI s 42 6 ((mI s 42 6 * 10) + (nI (T q) - 48))) 42 3 (nI (q + 1))) := (fr_uI s _ ⟨rfl, by decide, by decide⟩).tr (fr_uI _ _ ⟨rfl, by decide, by decide⟩)
        obtain ⟨s', e4, f4, h4, h5, h6⟩ := ih (q + 1) F _ (h.c f1) c (by omega) (by omega) (by omega) (fun j h1 h2 => by
          by_cases e : j = q
          · rw [e]; exact c1
          · exact hl j h1 (by omega)) (mI_at _ _ _ _) (fun h8 => by
            rw [mI_ne _ _ (by omega), mI_at, h7 (by omega), show (10 : Int32) = nI 10 from rfl, nI_mul, show (48 : Int32) = nI 48 from rfl, pk_sub c2.1, nI_add, show q + 1 - st = (q - st) + 1 by omega]
            show _ = nI (nv (fun j => T (st + j)) (q - st) * 10 + (T (st + (q - st)) - 48))
            rw [show st + (q - st) = q by omega])
        rw [if_pos c1, if_neg (by decide), if_pos ⟨c, c1⟩]
        refine ⟨s', ?_, f1.tr f4, h4, h5.trans ((mI_ne _ _ (by omega)).trans (mI_ne _ _ (by omega))), h6⟩
        refine ck_t h.b (ck_t (by rw [h3]; exact vp_in_nI (by omega) (by decide)) ?_)
        simp only [h3, nI_clamp (show q < 2 ^ 31 by omega), e1]
        have e9 : mI (uI s 42 6 ((mI s 42 6 * 10) + (nI (T q) - 48))) 42 3 = nI q := (mI_ne _ _ (by omega)).trans h3
        rw [e9, nI_1]
        exact e4
      · rw [if_neg c1, if_pos rfl, if_neg (fun g => c1 g.2)]
        exact ⟨s, rfl, FR.rf _ _ _, h3, rfl, h7⟩
    · obtain rfl : q = n := by omega
      rw [f_ck_of h.b, h3, h.2.2.1, if_pos (nI_le (Nat.le_refl _) (by omega)), if_neg (fun g => c g.1)]
      exact ⟨s, rfl, FR.rf _ _ _, h3, rfl, h7⟩
/-- the class's token -/
def CTk (s : Sg) (τ : Tok) : Prop := mI s 42 3 = nI τ.en ∧ mI s 42 4 = nI τ.k ∧ mI s 42 5 = nI τ.st ∧ (τ.k = 3 → mI s 42 6 = nI τ.v) ∧ (τ.k = 2 → mL s 42 7 = lN τ.pw)
theorem lN_ne {x c : Nat} (hx : x < 2 ^ 63) (hc : c < 2 ^ 63) : (lg_cmp (lN x) (lN c) = 0) ↔ x = c := (lg_cmp_eq _ _).trans (pk_lEQ hx hc)
theorem k_tokenOf {a : Nat} (h : a < 2 ^ 63) : f_Rd_tokenOf (lN a) s = some (nI (kwd a), s) := by
  have e : ∀ c : Nat, c < 2 ^ 63 → ((lg_cmp (lN a) (lN c) = 0) = (a = c)) := fun c hc => propext (lN_ne h hc)
  unfold f_Rd_tokenOf kwd
  rw [show (123581014175598 : Int64) = lN 123581014175598 from rfl, show (427071599731 : Int64) = lN 427071599731 from rfl, show (499967946343 : Int64) = lN 499967946343 from rfl, show (469785863539 : Int64) = lN 469785863539 from rfl, show (2003399784 : Int64) = lN 2003399784 from rfl, show (7237492 : Int64) = lN 7237492 from rfl, show (6385252 : Int64) = lN 6385252 from rfl, show (28530 : Int64) = lN 28530 from rfl]
  simp only [e 123581014175598 (by decide), e 427071599731 (by decide), e 499967946343 (by decide), e 469785863539 (by decide), e 2003399784 (by decide), e 7237492 (by decide), e 6385252 (by decide), e 28530 (by decide)]
  repeat' split
  all_goals rfl
theorem k_take (h : CTx T n s) (hp : p ≤ n) (h3 : mI s 42 3 = nI p) : ∃ s', f_Rd_take s = some ((), s') ∧ FR cA cB s s' ∧ CTk s' (tkn T n p) := by
  have hn := h.2.1
  obtain ⟨s1, e1, f1, p1⟩ := k_sk (n - p) p zl_fl s h hp (by omega) (by show n - p < 4096; omega) h3
  have hsn := @run_n T n isB (n - p) p hp
  unfold f_Rd_take
  rw [e1]
  have h1 := h.c f1
  unfold tkn
  generalize run T n isB (n - p) p = st at *
  have f2 : FR cA cB s1 (uI s1 42 5 (nI st)) := fr_uI s1 _ ⟨rfl, by decide, by decide⟩
  have h2 := h1.c f2
  have q2 : mI (uI s1 42 5 (nI st)) 42 2 = nI n := h2.2.2.1
  have q3 : mI (uI s1 42 5 (nI st)) 42 3 = nI st := (mI_ne _ _ (by omega)).trans p1
  have q5 : mI (uI s1 42 5 (nI st)) 42 5 = nI st := mI_at _ _ _ _
  have hf2 := f1.tr f2
  unfold f_Rd_take_b52
  rw [f_ck_of h1.b, p1]
  show ∃ s', (if mI (uI s1 42 5 (nI st)) 42 3 < mI (uI s1 42 5 (nI st)) 42 2 then _ else _) = _ ∧ _
  generalize uI s1 42 5 (nI st) = s2 at *
  rw [q2, q3]
  by_cases c : st < n
  · obtain ⟨t1, t2⟩ := h2.2.2.2.1 st c
    rw [if_pos (nI_lt c (by omega)), if_pos c, f_ck_of (vp_in_nI (by omega) (by decide)), nI_clamp (by omega), t1, f_bd_of (k_isL t2)]
    by_cases cl : isL (T st) = true
    · rw [if_pos cl, if_pos cl, if_neg (by decide), f_ck_of h2.b]
      have f3 : FR cA cB s2 (uL s2 42 7 0) := fr_uL s2 _ ⟨rfl, rfl⟩
      obtain ⟨s4, e4, f4, g3, g5, g7⟩ := k_wl (st := st) (n - st) st zl_fl _ (h2.c f3) (by omega) (by omega) (by show n - st < 4096; omega) (Nat.le_refl _) (fun j a b => absurd b (by omega)) q3 (fun _ => by rw [Nat.sub_self]; exact mL_at _ _ _ _)
      have ha := fun j => @run_all T n isL (n - st) st j
      have hen := @run_n T n isL (n - st) st hsn
      have hle := @run_le T n isL (n - st) st
      have f5 := (hf2.tr f3).tr f4
      have h4 := h.c f5
      generalize run T n isL (n - st) st = e at *
      have g5' : mI s4 42 5 = nI st := g5.trans q5
      have hlt : ltr (fun j => T (st + j)) (e - st) := fun j hj => isL_t.mp (ha (st + j) (by omega) (by omega))
      have hw : ∃ y, f_Rd_takeWord s2 = f_Rd_takeWord_b92 y s4 ∧ y = nI (if e - st ≤ 8 then kwd (pv (fun j => T (st + j)) (e - st)) else 1) := by
        unfold f_Rd_takeWord
        rw [f_ck_of h2.b]
        show ∃ y, f_Rd_takeWord_h5 zl_fl (uL s2 42 7 0) = _ ∧ _
        rw [e4]
        unfold f_Rd_takeWord_b66
        rw [f_ck_of h4.b, g3, g5', pk_sub hle]
        by_cases c8 : e - st ≤ 8
        · rw [if_pos (show nI (e - st) ≤ 8 from nI_le (b := 8) c8 (by decide)), g7 c8, f_bd_of (k_tokenOf (pv_63 hlt c8)), if_pos c8]
          exact ⟨_, rfl, rfl⟩
        · rw [if_neg (show ¬ nI (e - st) ≤ 8 from nI_ge (a := 8) (by omega) (by omega)), if_neg c8]
          exact ⟨_, rfl, rfl⟩
      obtain ⟨y, ey, hy⟩ := hw
      refine ⟨uI s4 42 4 y, ?_, f5.tr (fr_uI s4 _ ⟨rfl, by decide, by decide⟩), (mI_ne _ _ (by omega)).trans g3, ?_, (mI_ne _ _ (by omega)).trans g5', fun hk => ?_, fun hk => ?_⟩
      · refine (f_bd_of (show f_Rd_takeWord s2 = some ((), uI s4 42 4 y) from ?_)).trans rfl
        rw [ey]
        unfold f_Rd_takeWord_b92
        rw [f_ck_of h4.b]
      · rw [mI_at, hy]
      · exfalso
        have hk' : (if e - st ≤ 8 then kwd (pv (fun j => T (st + j)) (e - st)) else 1) = 3 := hk
        have := kwd_r (pv (fun j => T (st + j)) (e - st))
        split at hk' <;> omega
      · have hk' : (if e - st ≤ 8 then kwd (pv (fun j => T (st + j)) (e - st)) else 1) = 2 := hk
        have c8 : e - st ≤ 8 := by
          refine Nat.le_of_not_lt fun h9 => ?_
          rw [if_neg (by omega)] at hk'
          omega
        exact g7 c8
    · rw [if_neg cl, if_neg cl, if_pos rfl, f_ck_of h2.b]
      have v1 : vp_in (mI s2 42 3) 1000 := by rw [q3]; exact vp_in_nI (by omega) (by decide)
      rw [q3, f_ck_of (vp_in_nI (by omega) (by decide)), nI_clamp (by omega), t1, f_bd_of (k_isD t2)]
      by_cases cd : isD (T st) = true
      · rw [if_pos cd, if_pos cd, if_neg (by decide), f_ck_of h2.b]
        have f3 : FR cA cB s2 (uI s2 42 6 0) := fr_uI s2 _ ⟨rfl, by decide, by decide⟩
        obtain ⟨s4, e4, f4, g3, g5, g7⟩ := k_nl (st := st) (n - st) st zl_fl _ (h2.c f3) (by omega) (by omega) (by show n - st < 4096; omega) (Nat.le_refl _) (fun j a b => absurd b (by omega)) ((mI_ne _ _ (by omega)).trans q3) (fun _ => by rw [Nat.sub_self]; exact mI_at _ _ _ _)
        have hen := @run_n T n isD (n - st) st hsn
        have hle := @run_le T n isD (n - st) st
        have f5 := (hf2.tr f3).tr f4
        have h4 := h.c f5
        generalize run T n isD (n - st) st = e at *
        have g5' : mI s4 42 5 = nI st := g5.trans ((mI_ne _ _ (by omega)).trans q5)
        have hw : ∃ y, f_Rd_takeNumber s2 = f_Rd_takeNumber_b87 y s4 ∧ y = nI (if e - st ≤ 4 then 3 else 1) := by
          unfold f_Rd_takeNumber
          rw [f_ck_of h2.b]
          show ∃ y, f_Rd_takeNumber_h5 zl_fl (uI s2 42 6 0) = _ ∧ _
          rw [e4]
          unfold f_Rd_takeNumber_b68
          rw [f_ck_of h4.b, g3, g5', pk_sub hle]
          by_cases c8 : e - st ≤ 4
          · rw [if_pos (show nI (e - st) ≤ 4 from nI_le (b := 4) c8 (by decide)), if_pos c8]
            exact ⟨_, rfl, rfl⟩
          · rw [if_neg (show ¬ nI (e - st) ≤ 4 from nI_ge (a := 4) (by omega) (by omega)), if_neg c8]
            exact ⟨_, rfl, rfl⟩
        obtain ⟨y, ey, hy⟩ := hw
        refine ⟨uI s4 42 4 y, ?_, f5.tr (fr_uI s4 _ ⟨rfl, by decide, by decide⟩), (mI_ne _ _ (by omega)).trans g3, ?_, (mI_ne _ _ (by omega)).trans g5', fun hk => ?_, fun hk => ?_⟩
        · refine (f_bd_of (show f_Rd_takeNumber s2 = some ((), uI s4 42 4 y) from ?_)).trans rfl
          rw [ey]
          unfold f_Rd_takeNumber_b87
          rw [f_ck_of h4.b]
        · rw [mI_at, hy]
        · have hk' : (if e - st ≤ 4 then 3 else 1) = 3 := hk
          have c8 : e - st ≤ 4 := by
            refine Nat.le_of_not_lt fun h9 => ?_
            rw [if_neg (by omega)] at hk'
            omega
          exact (mI_ne _ _ (by omega)).trans (g7 c8)
        · exfalso
          have hk' : (if e - st ≤ 4 then 3 else 1) = 2 := hk
          split at hk' <;> omega
      · obtain ⟨r, er, hr⟩ := k_ix h2.2.2.2.2 t2
        rw [if_neg cd, if_neg cd, if_pos rfl, f_ck_of h2.b, q3, f_ck_of (vp_in_nI (by omega) (by decide)), nI_clamp (by omega), t1, f_bd_of er]
        have hfin : ∀ y : Nat, ∃ s', f_Rd_take_b154 (nI y) s2 = some ((), s') ∧ FR cA cB s s' ∧ mI s' 42 3 = nI (st + 1) ∧ mI s' 42 4 = nI y ∧ mI s' 42 5 = nI st := by
          intro y
          refine ⟨uI (uI s2 42 4 (nI y)) 42 3 (nI (st + 1)), ?_, (hf2.tr (fr_uI s2 _ ⟨rfl, by decide, by decide⟩)).tr (fr_uI _ _ ⟨rfl, by decide, by decide⟩), mI_at _ _ _ _, (mI_ne _ _ (by omega)).trans (mI_at _ _ _ _), (mI_ne _ _ (by omega)).trans ((mI_ne _ _ (by omega)).trans q5)⟩
          unfold f_Rd_take_b154
          rw [f_ck_of h2.b]
          have e9 : mI (uI s2 42 4 (nI y)) 42 3 = nI st := (mI_ne _ _ (by omega)).trans q3
          simp only [e9, nI_1]
        by_cases cs : isS (T st) = true
        · rw [if_neg (fun g => (hr.mp g) cs), f_ck_of h2.b, q3, f_ck_of (vp_in_nI (by omega) (by decide)), nI_clamp (by omega), t1, if_pos cs]
          obtain ⟨s', w1, w2, w3, w4, w5⟩ := hfin (T st)
          have := isS_t.mp cs
          refine ⟨s', w1, w2, w3, w4, w5, fun hk => ?_, fun hk => ?_⟩
          · have hk' : T st = 3 := hk
            omega
          · have hk' : T st = 2 := hk
            omega
        · rw [if_pos (hr.mpr cs), if_neg cs]
          obtain ⟨s', w1, w2, w3, w4, w5⟩ := hfin 1
          exact ⟨s', w1, w2, w3, w4, w5, fun hk => absurd hk (by decide : ¬ (1 : Nat) = 3), fun hk => absurd hk (by decide : ¬ (1 : Nat) = 2)⟩
  · obtain rfl : st = n := by omega
    rw [if_neg (nI_nlt (Nat.le_refl _) (by omega)), if_neg c]
    exact ⟨_, rfl, hf2.tr (fr_uI s2 _ ⟨rfl, by decide, by decide⟩), (mI_ne _ _ (by omega)).trans q3, mI_at _ _ _ _, (mI_ne _ _ (by omega)).trans q5, fun hk => absurd hk (by decide : ¬ (0 : Nat) = 3), fun hk => absurd hk (by decide : ¬ (0 : Nat) = 2)⟩
end
