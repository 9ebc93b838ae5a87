/-! works: what a line's code comes to: the class -/
section
theorem nI_sub (a b : Nat) : nI (a + b) - nI a = nI b := by
  rw [Nat.add_comm a b, ← nI_add]
  exact Int32.add_sub_cancel _ _
def S20 (t a k : Nat) : Prop := a = 20 ∧ t ≤ k
def NoL (_ _ : Nat) : Prop := False
variable {s s' s1 s2 : Sg} {T : Nat → Nat} {n : Nat} {e : Nm}
theorem k_joined {k : Nat} (hk : k < 62) (x y : Int32) : f_Wo_joined (nI k) x y s = some (jn k x y, s) := by
  have e : ∀ j, j < 62 → ((nI k = nI j) = (k = j)) := fun j hj => propext (nI_eq (by omega) (by omega))
  have e10 : (nI k = (10 : Int32)) = (k = 10) := e 10 (by decide)
  have e42 : (nI k = (42 : Int32)) = (k = 42) := e 42 (by decide)
  have e43 : (nI k = (43 : Int32)) = (k = 43) := e 43 (by decide)
  have e45 : (nI k = (45 : Int32)) = (k = 45) := e 45 (by decide)
  have e60 : (nI k = (60 : Int32)) = (k = 60) := e 60 (by decide)
  have e61 : (nI k = (61 : Int32)) = (k = 61) := e 61 (by decide)
  unfold f_Wo_joined f_Wo_joined_b116 jn
  simp only [e10, e42, e43, e45, e60, e61]
  by_cases c10 : k = 10
  · rw [if_pos c10, if_pos c10]
    by_cases z : x = 0
    · rw [if_pos z, if_pos z]
    · rw [if_neg z, if_neg z]
      by_cases z2 : y = 0
      · rw [if_pos z2, if_pos z2]
      · rw [if_neg z2, if_neg z2]
  · rw [if_neg c10, if_neg c10]
    by_cases c42 : k = 42
    · rw [if_pos c42, if_pos c42]
    · rw [if_neg c42, if_neg c42]
      by_cases c43 : k = 43
      · rw [if_pos c43, if_pos c43]
      · rw [if_neg c43, if_neg c43]
        by_cases c45 : k = 45
        · rw [if_pos c45, if_pos c45]
        · rw [if_neg c45, if_neg c45]
          by_cases c60 : k = 60
          · rw [if_pos c60, if_pos c60]
            by_cases z : y ≤ x
            · rw [if_pos z, if_pos z]
            · rw [if_neg z, if_neg z]
          · rw [if_neg c60, if_neg c60]
            by_cases c61 : k = 61
            · rw [if_pos c61, if_pos c61]
              by_cases z : x = y
              · rw [if_pos z, if_pos z]
              · rw [if_neg z, if_neg z]
            · rw [if_neg c61, if_neg c61]
              by_cases z : x = 0
              · rw [if_pos z, if_pos z]
                by_cases z2 : y = 0
                · rw [if_pos z2, if_pos z2]
                · rw [if_neg z2, if_neg z2]
              · rw [if_neg z, if_neg z]
/-- the class's walk over such code leaves its worth on the stack -/
def KEv (m : Nat) (a : Ev) : Prop := ∀ (q t c lim F : Nat) (s : Sg), q < 256 → t + m ≤ 32 → zl_B s → HC s 12 c a.1 → c + a.1.length ≤ lim → lim ≤ 1000 → ∃ s', f_Wo_lineValue_h32 (F + a.1.length) (nI q) (nI t) (nI lim) (nI c) s = f_Wo_lineValue_h32 F (nI q) (nI (t + 1)) (nI lim) (nI (c + a.1.length)) s' ∧ FR (S20 t) NoL s s' ∧ mI s' 20 t = a.2.2 q
theorem KEv.mo {m m' : Nat} {a : Ev} (h : KEv m a) (hm : m ≤ m') : KEv m' a := fun q t c lim F s h1 h2 h3 h4 h5 h6 => h q t c lim F s h1 (by omega) h3 h4 h5 h6
theorem kev_num {v : Nat} (hv : v ≤ 9999) : KEv 1 (eNum v) := by
  intro q t c lim F s hq ht hb hc hl hm
  have h1 : mI s 12 c = nI v := hc.1
  have hl1 : c + 1 ≤ lim := hl
  refine ⟨uI s 20 t (nI v), ?_, fr_uI s _ ⟨rfl, Nat.le_refl _⟩, mI_at _ _ _ _⟩
  show f_Wo_lineValue_b32 (f_Wo_lineValue_h32 F) (nI q) (nI t) (nI lim) (nI c) s = f_Wo_lineValue_h32 F (nI q) (nI (t + 1)) (nI lim) (nI (c + 1)) _
  unfold f_Wo_lineValue_b32
  rw [if_neg (nI_ge (by omega) (by omega)), f_ck_of hb, f_ck_of (vp_in_nI (by omega) (by decide)), nI_clamp (by omega), h1, if_neg (show ¬ (20000 : Int32) ≤ nI v from nI_ge (b := 20000) (by omega) (by decide)), if_neg (show ¬ (32 : Int32) ≤ nI t from nI_ge (b := 32) (by omega) (by decide)), if_neg (show ¬ (10000 : Int32) ≤ nI v from nI_ge (b := 10000) (by omega) (by decide))]
  unfold f_Wo_lineValue_b96 f_Wo_lineValue_b181
  rw [f_ck_of hb, f_ck_of (vp_in_nI (by omega) (by decide)), nI_clamp (by omega)]
  simp only [nI_1]
theorem kev_nam {p : Nat} (hp : p < 4) : KEv 1 (eNam p) := by
  intro q t c lim F s hq ht hb hc hl hm
  have h1 : mI s 12 c = nI (10000 + p) := hc.1
  have hl1 : c + 1 ≤ lim := hl
  refine ⟨uI s 20 t (nI (sStep q p)), ?_, fr_uI s _ ⟨rfl, Nat.le_refl _⟩, mI_at _ _ _ _⟩
  show f_Wo_lineValue_b32 (f_Wo_lineValue_h32 F) (nI q) (nI t) (nI lim) (nI c) s = f_Wo_lineValue_h32 F (nI q) (nI (t + 1)) (nI lim) (nI (c + 1)) _
  unfold f_Wo_lineValue_b32
  have e1 : nI (10000 + p) - 10000 = nI p := nI_sub 10000 p
  rw [if_neg (nI_ge (by omega) (by omega)), f_ck_of hb, f_ck_of (vp_in_nI (by omega) (by decide)), nI_clamp (by omega), h1, if_neg (show ¬ (20000 : Int32) ≤ nI (10000 + p) from nI_ge (b := 20000) (by omega) (by decide)), if_neg (show ¬ (32 : Int32) ≤ nI t from nI_ge (b := 32) (by omega) (by decide)), if_pos (show (10000 : Int32) ≤ nI (10000 + p) from nI_le (a := 10000) (by omega) (by omega)), e1, f_bd_of (k_stepIn hq hp)]
  unfold f_Wo_lineValue_b96 f_Wo_lineValue_b181
  rw [f_ck_of hb, f_ck_of (vp_in_nI (by omega) (by decide)), nI_clamp (by omega)]
  simp only [nI_1]
theorem kev_not {m : Nat} {a : Ev} (h : KEv m a) (hm : 1 ≤ m) : KEv m (eNot a) := by
  intro q t c lim F s hq ht hb hc hl hl2
  have hlen : (eNot a).1.length = a.1.length + 1 := by
    show (a.1 ++ [20009]).length = _
    rw [List.length_append]; rfl
  rw [hlen] at hl ⊢
  have hc' : HC s 12 c a.1 ∧ HC s 12 (c + a.1.length) [20009] := HC_ap.mp hc
  obtain ⟨s1, e1, f1, v1⟩ := h q t c lim (F + 1) s hq ht hb hc'.1 (by omega) hl2
  have h9 : mI s1 12 (c + a.1.length) = nI 20009 := (f1.2.1 12 _ (by unfold S20; omega)).trans hc'.2.1
  have b1 := f1.b hb
  refine ⟨uI s1 20 t (if a.2.2 q = 0 then 1 else 0), ?_, f1.tr (fr_uI _ _ ⟨rfl, Nat.le_refl _⟩), mI_at _ _ _ _⟩
  rw [show F + (a.1.length + 1) = F + 1 + a.1.length by omega, e1]
  show f_Wo_lineValue_b32 (f_Wo_lineValue_h32 F) (nI q) (nI (t + 1)) (nI lim) (nI (c + a.1.length)) s1 = _
  unfold f_Wo_lineValue_b32
  rw [if_neg (nI_ge (by omega) (by omega)), f_ck_of b1, f_ck_of (vp_in_nI (by omega) (by decide)), nI_clamp (by omega), h9, if_pos (show (20000 : Int32) ≤ nI 20009 by decide), if_pos (show nI 20009 = 20009 from rfl), if_neg (nI_nle (by omega) (by omega)), nI_pred, f_ck_of (vp_in_nI (by omega) (by decide)), nI_clamp (by omega), v1]
  by_cases z : a.2.2 q = 0
  · rw [if_pos z, if_pos z]
    unfold f_Wo_lineValue_b138 f_Wo_lineValue_b181
    rw [f_ck_of b1, f_ck_of (vp_in_nI (by omega) (by decide)), nI_clamp (by omega)]
    simp only [nI_1, Nat.add_assoc]
  · rw [if_neg z, if_neg z]
    unfold f_Wo_lineValue_b138 f_Wo_lineValue_b181
    rw [f_ck_of b1, f_ck_of (vp_in_nI (by omega) (by decide)), nI_clamp (by omega)]
    simp only [nI_1, Nat.add_assoc]
theorem kev_bin {m m' k : Nat} {a b : Ev} (ha : KEv m a) (hbb : KEv m' b) (hm : m' + 1 ≤ m) (hm0 : 1 ≤ m') (hk : k < 62) (hk9 : k ≠ 9) : KEv m (eBin k a b) := by
  intro q t c lim F s hq ht hb hc hl hl2
  have hlen : (eBin k a b).1.length = a.1.length + b.1.length + 1 := by
    show (a.1 ++ (b.1 ++ [20000 + k])).length = _
    rw [List.length_append, List.length_append]
    show a.1.length + (b.1.length + 1) = _
    omega
  rw [hlen] at hl ⊢
  have hc1 : HC s 12 c a.1 ∧ HC s 12 (c + a.1.length) (b.1 ++ [20000 + k]) := HC_ap.mp hc
  have hc2 : HC s 12 (c + a.1.length) b.1 ∧ HC s 12 (c + a.1.length + b.1.length) [20000 + k] := HC_ap.mp hc1.2
  obtain ⟨s1, e1, f1, v1⟩ := ha q t c lim (F + 1 + b.1.length) s hq ht hb hc1.1 (by omega) hl2
  have b1 := f1.b hb
  obtain ⟨s2, e2, f2, v2⟩ := hbb q (t + 1) (c + a.1.length) lim (F + 1) s1 hq (by omega) b1 (HC_cg (fun j hj => f1.2.1 12 _ (by unfold S20; omega)) hc2.1) (by omega) hl2
  have b2 := f2.b b1
  have f12 : FR (S20 t) NoL s s2 := f1.tr (f2.mo (fun a k h => ⟨h.1, by have := h.2; omega⟩) (fun _ _ h => h))
  have h9 : mI s2 12 (c + a.1.length + b.1.length) = nI (20000 + k) := (f12.2.1 12 _ (by unfold S20; omega)).trans hc2.2.1
  have v1' : mI s2 20 t = a.2.2 q := (f2.2.1 20 t (by unfold S20; omega)).trans v1
  refine ⟨uI s2 20 t (jn k (a.2.2 q) (b.2.2 q)), ?_, f12.tr (fr_uI _ _ ⟨rfl, Nat.le_refl _⟩), mI_at _ _ _ _⟩
  rw [show F + (a.1.length + b.1.length + 1) = F + 1 + b.1.length + a.1.length by omega, e1, e2]
  show f_Wo_lineValue_b32 (f_Wo_lineValue_h32 F) (nI q) (nI (t + 1 + 1)) (nI lim) (nI (c + a.1.length + b.1.length)) s2 = _
  unfold f_Wo_lineValue_b32
  have eN : nI (20000 + k) - 20000 = nI k := nI_sub 20000 k
  rw [if_neg (nI_ge (by omega) (by omega)), f_ck_of b2, f_ck_of (vp_in_nI (by omega) (by decide)), nI_clamp (by omega), h9, if_pos (show (20000 : Int32) ≤ nI (20000 + k) from nI_le (a := 20000) (by omega) (by omega)), if_neg (show ¬ nI (20000 + k) = 20009 from fun q => by have := (nI_eq (b := 20009) (by omega) (by decide)).mp q; omega), if_neg (show ¬ nI (t + 1 + 1) ≤ 1 from nI_ge (a := 1) (by omega) (by omega)), pk_m1, nI_pred, f_ck_of (vp_in_nI (by omega) (by decide)), f_ck_of (vp_in_nI (by omega) (by decide)), eN, nI_clamp (by omega), nI_clamp (by omega), v1', v2, f_bd_of (k_joined hk _ _), f_ck_of b2, f_ck_of (vp_in_nI (by omega) (by decide))]
  unfold f_Wo_lineValue_b181
  rw [show c + (a.1.length + b.1.length + 1) = c + a.1.length + b.1.length + 1 by omega]
  simp only [nI_1]
/-- a line's worth -/
theorem k_line {a : Ev} (h : KEv 32 a) {l q c : Nat} (hq : q < 256) (hl : l < 8) (hb : zl_B s) (h1 : mI s 11 l = nI c) (h2 : mI s 11 (l + 1) = nI (c + a.1.length)) (hm : c + a.1.length ≤ 1000) (hc : HC s 12 c a.1) : ∃ s', f_Wo_lineValue (nI l) (nI q) s = some (a.2.2 q, s') ∧ KL s s' := by
  obtain ⟨s1, e1, f1, v1⟩ := h q 0 c (c + a.1.length) (zl_fl - a.1.length) s hq (by omega) hb hc (Nat.le_refl _) hm
  have b1 := f1.b hb
  have hz : zl_fl = 4096 := rfl
  refine ⟨s1, ?_, f1.1.1, f1.1.2, fun a k ha => ⟨f1.2.1 a k (by unfold S20; omega), f1.2.2 a k (fun h => h)⟩⟩
  unfold f_Wo_lineValue
  rw [f_ck_of hb, nI_1, f_ck_of (vp_in_nI (by omega) (by decide)), f_ck_of (vp_in_nI (by omega) (by decide)), nI_clamp (by omega), nI_clamp (by omega), h1, h2, if_neg (show ¬ (1000 : Int32) < nI (c + a.1.length) from nI_nlt (a := 1000) (by omega) (by decide))]
  rw [show zl_fl - a.1.length + a.1.length = zl_fl by omega] at e1
  refine (show f_Wo_lineValue_h32 zl_fl (nI q) 0 (nI (c + a.1.length)) (nI c) s = _ from e1).trans ?_
  obtain ⟨F, hF⟩ : ∃ F, zl_fl - a.1.length = F + 1 := ⟨zl_fl - a.1.length - 1, by omega⟩
  rw [hF]
  show f_Wo_lineValue_b32 (f_Wo_lineValue_h32 F) (nI q) (nI (0 + 1)) (nI (c + a.1.length)) (nI (c + a.1.length)) s1 = _
  unfold f_Wo_lineValue_b32 f_Wo_lineValue_b187
  rw [if_pos (nI_le (Nat.le_refl _) (by omega)), f_ck_of b1]
  show some (mI s1 20 0, s1) = _
  rw [v1]
end
