/-! works: what a line's code comes to: the model -/
section
variable {s s' s1 s2 : Sg} {P l d : Nat}
def mF (l d a k : Nat) : Prop := (58 ≤ a ∧ a ≤ 66 ∧ d < k) ∨ (k = d ∧ 58 + 2 * l ≤ a ∧ a ≤ 65)
def mF4 (d a k : Nat) : Prop := (58 ≤ a ∧ a ≤ 66 ∧ d < k) ∨ (k = d ∧ a = 64)
def oF (d a k : Nat) : Prop := k = d ∧ 58 ≤ a ∧ a ≤ 65
def dF (d a k : Nat) : Prop := k = d ∧ 58 ≤ a ∧ a ≤ 66
def lF (a _k : Nat) : Prop := 58 ≤ a ∧ a ≤ 66
def tFr (d a k : Nat) : Prop := k = d ∧ (a = 58 ∨ a = 61 ∨ a = 62 ∨ a = 63 ∨ a = 65)
def VV2 (s : Sg) (d : Nat) : Int32 := if mI s 63 d = 21 then mI s 62 d - mI s 64 d else mI s 62 d + mI s 64 d
def VV1 (s : Sg) (d : Nat) : Int32 := if mI s 61 d = 24 then (if VV2 s d ≤ mI s 60 d then 0 else 1) else if mI s 61 d = 25 then (if mI s 60 d = VV2 s d then 1 else 0) else VV2 s d
def VV0 (s : Sg) (d : Nat) : Int32 := if mI s 59 d = 26 then (if mI s 58 d = 0 then 0 else if VV1 s d = 0 then 0 else 1) else if mI s 59 d = 27 then (if mI s 58 d = 0 then (if VV1 s d = 0 then 0 else 1) else 1) else VV1 s d
def VVl (l : Nat) (s : Sg) (d : Nat) : Int32 := if l = 0 then VV0 s d else if l = 1 then VV1 s d else if l = 2 then VV2 s d else mI s 64 d
def fre (l : Nat) (s : Sg) (d : Nat) : Prop := mI s 65 d = 0 ∧ (l ≤ 2 → mI s 62 d = 0 ∧ mI s 63 d = 20) ∧ (l ≤ 1 → mI s 61 d = 0) ∧ (l = 0 → mI s 59 d = 0)
theorem m_sums (hb : zl_B s) (hd : d < 7) : f_Mo_sums (nI d) s = some ((), uI (uI s 62 d (VV2 s d)) 65 d 0) := by
  have v7 : vp_in (nI d) 7 := vp_in_nI hd (by decide)
  have ed : (nI d).toNatClampNeg = d := nI_clamp (by omega)
  unfold f_Mo_sums f_Mo_sums_b45 VV2
  rw [f_ck_of hb, f_ck_of v7, ed]
  by_cases c : mI s 63 d = 21
  · rw [if_pos c, if_pos c, f_ck_of v7, f_ck_of v7, f_ck_of hb, f_ck_of v7]
    exact f_ck_of v7
  · rw [if_neg c, if_neg c, f_ck_of v7, f_ck_of v7, f_ck_of hb, f_ck_of v7]
    exact f_ck_of v7
def w27 (s : Sg) (d : Nat) (x : Int32) : Int32 := if mI s 59 d = 27 then (if mI s 58 d = 0 then (if x = 0 then 0 else 1) else 1) else x
def w26 (s : Sg) (d : Nat) (x : Int32) : Int32 := if mI s 59 d = 26 then (if mI s 58 d = 0 then 0 else if x = 0 then 0 else 1) else w27 s d x
def w25 (s : Sg) (d : Nat) (x : Int32) : Int32 := if mI s 61 d = 25 then (if mI s 60 d = mI s 62 d then 1 else 0) else x
theorem tb106 (hb : zl_B s) (hd : d < 7) (x : Int32) : f_Mo_tests_b106 (nI d) x s = f_Mo_tests_b136 (nI d) (w27 s d x) s := by
  have v7 : vp_in (nI d) 7 := vp_in_nI hd (by decide)
  have ed : (nI d).toNatClampNeg = d := nI_clamp (by omega)
  unfold f_Mo_tests_b106 f_Mo_tests_b130 f_Mo_tests_b135 w27
  rw [f_ck_of hb, f_ck_of v7, ed]
  by_cases c : mI s 59 d = 27
  · rw [if_pos c, if_pos c, f_ck_of v7]
    by_cases c2 : mI s 58 d = 0
    · rw [if_pos c2, if_pos c2]
      by_cases c3 : x = 0
      · rw [if_pos c3, if_pos c3]
      · rw [if_neg c3, if_neg c3]
    · rw [if_neg c2, if_neg c2]
  · rw [if_neg c, if_neg c]
theorem tb76 (hb : zl_B s) (hd : d < 7) (x : Int32) : f_Mo_tests_b76 (nI d) x s = f_Mo_tests_b136 (nI d) (w26 s d x) s := by
  have v7 : vp_in (nI d) 7 := vp_in_nI hd (by decide)
  have ed : (nI d).toNatClampNeg = d := nI_clamp (by omega)
  unfold f_Mo_tests_b76 f_Mo_tests_b104 f_Mo_tests_b105 w26
  rw [f_ck_of hb, f_ck_of v7, ed]
  by_cases c : mI s 59 d = 26
  · have e27 : ∀ y, w27 s d y = y := fun y => if_neg (by rw [c]; decide)
    rw [if_pos c, if_pos c, f_ck_of v7]
    by_cases c2 : mI s 58 d = 0
    · rw [if_pos c2, if_pos c2, tb106 hb hd, e27]
    · rw [if_neg c2, if_neg c2]
      by_cases c3 : x = 0
      · rw [if_pos c3, if_pos c3, tb106 hb hd, e27]
      · rw [if_neg c3, if_neg c3, tb106 hb hd, e27]
  · rw [if_neg c, if_neg c, tb106 hb hd]
theorem tb44 (hb : zl_B s) (hd : d < 7) (x : Int32) : f_Mo_tests_b44 (nI d) x s = f_Mo_tests_b136 (nI d) (w26 s d (w25 s d x)) s := by
  have v7 : vp_in (nI d) 7 := vp_in_nI hd (by decide)
  have ed : (nI d).toNatClampNeg = d := nI_clamp (by omega)
  unfold f_Mo_tests_b44 f_Mo_tests_b75 w25
  rw [f_ck_of hb, f_ck_of v7, ed]
  by_cases c : mI s 61 d = 25
  · rw [if_pos c, if_pos c, f_ck_of v7, f_ck_of v7]
    by_cases c2 : mI s 60 d = mI s 62 d
    · rw [if_pos c2, if_pos c2, tb76 hb hd]
    · rw [if_neg c2, if_neg c2, tb76 hb hd]
  · rw [if_neg c, if_neg c, tb76 hb hd]
theorem m_tests (hb : zl_B s) (hd : d < 7) : ∃ s', f_Mo_tests (nI d) s = some ((), s') ∧ FR (tFr d) NoL s s' ∧ mI s' 58 d = VV0 s d ∧ mI s' 61 d = 0 ∧ mI s' 62 d = 0 ∧ mI s' 63 d = 20 ∧ mI s' 65 d = 0 := by
  have v7 : vp_in (nI d) 7 := vp_in_nI hd (by decide)
  have ed : (nI d).toNatClampNeg = d := nI_clamp (by omega)
  let t : Sg := uI (uI s 62 d (VV2 s d)) 65 d 0
  have ht : t = uI (uI s 62 d (VV2 s d)) 65 d 0 := rfl
  have hbt : zl_B t := hb
  have r62 : mI t 62 d = VV2 s d := by rw [ht, mI_ne _ _ (by omega)]; exact mI_at _ _ _ _
  have r65 : mI t 65 d = 0 := by rw [ht]; exact mI_at _ _ _ _
  have r : ∀ a, a ≠ 62 → a ≠ 65 → mI t a d = mI s a d := fun a h1 h2 => by rw [ht, mI_ne _ _ (by omega), mI_ne _ _ (by omega)]
  have key : ∀ x, x = VV0 s d → ∃ s', f_Mo_tests_b136 (nI d) x t = some ((), s') ∧ FR (tFr d) NoL s s' ∧ mI s' 58 d = VV0 s d ∧ mI s' 61 d = 0 ∧ mI s' 62 d = 0 ∧ mI s' 63 d = 20 ∧ mI s' 65 d = 0 := by
    intro x hx
    refine ⟨uI (uI (uI (uI t 58 d x) 61 d 0) 62 d 0) 63 d 20, ?_, ?_, ?_, ?_, ?_, ?_, ?_⟩
    · unfold f_Mo_tests_b136
      rw [f_ck_of hbt, f_ck_of v7, ed, f_ck_of v7, f_ck_of v7, f_ck_of v7]
    · rw [ht]
      exact ((((((fr_uI s _ (show tFr d 62 d from ⟨rfl, by omega⟩)).tr (fr_uI _ _ (show tFr d 65 d from ⟨rfl, by omega⟩))).tr (fr_uI _ _ (show tFr d 58 d from ⟨rfl, by omega⟩))).tr (fr_uI _ _ (show tFr d 61 d from ⟨rfl, by omega⟩))).tr (fr_uI _ _ (show tFr d 62 d from ⟨rfl, by omega⟩))).tr (fr_uI _ _ (show tFr d 63 d from ⟨rfl, by omega⟩)))
    · rw [mI_ne _ _ (by omega), mI_ne _ _ (by omega), mI_ne _ _ (by omega), mI_at]; exact hx
    · rw [mI_ne _ _ (by omega), mI_ne _ _ (by omega)]; exact mI_at _ _ _ _
    · rw [mI_ne _ _ (by omega)]; exact mI_at _ _ _ _
    · exact mI_at _ _ _ _
    · rw [mI_ne _ _ (by omega), mI_ne _ _ (by omega), mI_ne _ _ (by omega), mI_ne _ _ (by omega)]; exact r65
  have e26 : w26 t d (VV1 s d) = VV0 s d := by
    unfold w26 w27 VV0
    rw [r 59 (by decide) (by decide), r 58 (by decide) (by decide)]
  unfold f_Mo_tests f_Mo_tests_b43
  rw [f_ck_of hb, f_bd_of (m_sums hb hd)]
  show ∃ s', (f_ck (zl_B t) <| f_ck (vp_in (nI d) 7) <| f_ck (vp_in (nI d) 7) <| if mI t 61 (nI d).toNatClampNeg = 24 then f_ck (vp_in (nI d) 7) <| f_ck (vp_in (nI d) 7) <| (if mI t 62 (nI d).toNatClampNeg ≤ mI t 60 (nI d).toNatClampNeg then f_Mo_tests_b44 (nI d) 0 t else f_Mo_tests_b44 (nI d) 1 t) else f_Mo_tests_b44 (nI d) (mI t 62 (nI d).toNatClampNeg) t) = _ ∧ _
  rw [f_ck_of hbt, f_ck_of v7, f_ck_of v7, ed, r62, r 61 (by decide) (by decide), r 60 (by decide) (by decide)]
  by_cases c : mI s 61 d = 24
  · have e25 : ∀ y, w25 t d y = y := fun y => if_neg (by rw [r 61 (by decide) (by decide), c]; decide)
    rw [if_pos c, f_ck_of v7, f_ck_of v7]
    by_cases c2 : VV2 s d ≤ mI s 60 d
    · rw [if_pos c2, tb44 hbt hd, e25]
      refine key _ ?_
      rw [← e26]
      unfold VV1
      rw [if_pos c, if_pos c2]
    · rw [if_neg c2, tb44 hbt hd, e25]
      refine key _ ?_
      rw [← e26]
      unfold VV1
      rw [if_pos c, if_neg c2]
  · rw [if_neg c, tb44 hbt hd]
    refine key _ ?_
    rw [← e26]
    unfold VV1 w25
    rw [if_neg c, r 61 (by decide) (by decide), r 60 (by decide) (by decide), r62]
theorem m_opens (hb : zl_B s) (hd : d < 7) : ∃ s', f_Mo_opens (nI d) s = some ((), s') ∧ FR (oF d) NoL s s' ∧ fre 0 s' d := by
  have v7 : vp_in (nI d) 7 := vp_in_nI hd (by decide)
  have ed : (nI d).toNatClampNeg = d := nI_clamp (by omega)
  refine ⟨uI (uI (uI (uI (uI s 59 d 0) 61 d 0) 62 d 0) 63 d 20) 65 d 0, ?_, ?_, ?_, fun _ => ⟨?_, ?_⟩, fun _ => ?_, fun _ => ?_⟩
  · unfold f_Mo_opens
    rw [f_ck_of hb, f_ck_of v7, ed, f_ck_of v7, f_ck_of v7, f_ck_of v7, f_ck_of v7]
  · exact (((((fr_uI s _ ⟨rfl, by omega⟩).tr (fr_uI _ _ ⟨rfl, by omega⟩)).tr (fr_uI _ _ ⟨rfl, by omega⟩)).tr (fr_uI _ _ ⟨rfl, by omega⟩)).tr (fr_uI _ _ ⟨rfl, by omega⟩))
  · exact mI_at _ _ _ _
  · rw [mI_ne _ _ (by omega), mI_ne _ _ (by omega)]; exact mI_at _ _ _ _
  · rw [mI_ne _ _ (by omega)]; exact mI_at _ _ _ _
  · rw [mI_ne _ _ (by omega), mI_ne _ _ (by omega), mI_ne _ _ (by omega)]; exact mI_at _ _ _ _
  · rw [mI_ne _ _ (by omega), mI_ne _ _ (by omega), mI_ne _ _ (by omega), mI_ne _ _ (by omega)]; exact mI_at _ _ _ _
/-- where a walk over a line's code stands -/
def MW (P q x c E : Nat) (l : List Nat) (s : Sg) : Prop := (q < 256 ∧ x < 16 ∧ E ≤ 2000) ∧ zl_B s ∧ (∀ p, p < P → mI s 67 (1 + p) = nI (sStep q p)) ∧ mI s 54 x = nI E ∧ HC s 55 c l ∧ c + l.length ≤ E
theorem MW.f {A B : Nat → Nat → Prop} {q x c E : Nat} {l : List Nat} (h : MW P q x c E l s) (f : FR A B s s') (hA : ∀ a k, A a k → 58 ≤ a ∧ a ≤ 66) : MW P q x c E l s' := by
  obtain ⟨h1, h2, h3, h4, h5, h6⟩ := h
  have z : ∀ a k, ¬ (58 ≤ a ∧ a ≤ 66) → mI s' a k = mI s a k := fun a k g => f.2.1 a k (fun q => g (hA a k q))
  exact ⟨h1, f.b h2, fun p hp => (z 67 _ (by omega)).trans (h3 p hp), (z 54 _ (by omega)).trans h4, HC_cg (fun k _ => z 55 _ (by omega)) h5, h6⟩
theorem MW.sp {q x c E : Nat} {l1 l2 : List Nat} (h : MW P q x c E (l1 ++ l2) s) : MW P q x c E l1 s ∧ MW P q x (c + l1.length) E l2 s := by
  obtain ⟨h1, h2, h3, h4, h5, h6⟩ := h
  rw [List.length_append] at h6
  have := HC_ap.mp h5
  exact ⟨⟨h1, h2, h3, h4, this.1, by omega⟩, h1, h2, h3, h4, this.2, by omega⟩
theorem MW.c {q x c E z : Nat} {l2 : List Nat} (h : MW P q x c E (z :: l2) s) : MW P q x (c + 1) E l2 s := by
  obtain ⟨h1, h2, h3, h4, h5, h6⟩ := h
  rw [List.length_cons] at h6
  exact ⟨h1, h2, h3, h4, h5.2, by omega⟩
theorem mF_58 {l d : Nat} : ∀ a k, mF l d a k → 58 ≤ a ∧ a ≤ 66 := fun a k h => by unfold mF at h; omega
theorem mF4_58 {d : Nat} : ∀ a k, mF4 d a k → 58 ≤ a ∧ a ≤ 66 := fun a k h => by unfold mF4 at h; omega
def MJ (P l d : Nat) (a : Ev) : Prop := ∀ (q x c E F : Nat) (s : Sg), (d = 0 ∨ mI s 66 d = 0) → MW P q x c E a.2.1 s → fre l s d → ∃ s', f_Mo_worked_h14 (F + a.2.1.length) (nI x) (nI d) (nI c) s = f_Mo_worked_h14 F (nI x) (nI d) (nI (c + a.2.1.length)) s' ∧ FR (mF l d) NoL s s' ∧ VVl l s' d = a.2.2 q
def MJ4 (P d : Nat) (a : Ev) : Prop := ∀ (q x c E F : Nat) (s : Sg), (d = 0 ∨ mI s 66 d = 0) → MW P q x c E a.2.1 s → ∃ s', f_Mo_worked_h14 (F + a.2.1.length) (nI x) (nI d) (nI c) s = f_Mo_worked_h14 F (nI x) (nI d) (nI (c + a.2.1.length)) s' ∧ FR (mF4 d) NoL s s' ∧ mI s' 64 d = (if mI s 65 d = 0 then a.2.2 q else mI s 64 d * a.2.2 q)
def MP (P d : Nat) (a : Ev) : Prop := ∀ (q x c E F : Nat) (s : Sg), MW P q x c E a.2.1 s → ∃ G j s', 4000 + d ≤ G ∧ a.2.1.length = j + 1 ∧ f_Mo_worked_h14 (F + a.2.1.length) (nI x) (nI d) (nI c) s = f_Mo_worked_h268 (f_Mo_worked_h14 F) G (nI x) (nI d) (nI (c + j)) (a.2.2 q) s' ∧ FR (mF 4 d) NoL s s'
theorem zl_4096 : zl_fl = 4096 := rfl
/-- one code is read -/
theorem mw_14 {q x c E z : Nat} {l2 : List Nat} (h : MW P q x c E (z :: l2) s) (R : Int32 → Int32 → Int32 → Sg → Option (Int32 × Sg)) : f_Mo_worked_b14 R (nI x) (nI d) (nI c) s =
    (if nI z = 28 then f_Mo_worked_b46 R (nI x) (nI d) (nI c) (nI z) s else if nI z = 30 then f_Mo_worked_b46 R (nI x) (nI d) (nI c) (nI z) s else if nI z = 20 then f_Mo_worked_b89 R (nI x) (nI d) (nI c) (nI z) s else if nI z = 21 then f_Mo_worked_b89 R (nI x) (nI d) (nI c) (nI z) s else if nI z = 22 then (f_ck (vp_in (nI d) 7) <| f_Mo_worked_b329 R (nI x) (nI d) (nI c) (uI s 65 (Int32.toNatClampNeg (nI d)) (nI z))) else if nI z = 24 then f_Mo_worked_b137 R (nI x) (nI d) (nI c) (nI z) s else if nI z = 25 then f_Mo_worked_b137 R (nI x) (nI d) (nI c) (nI z) s else if nI z = 26 then f_Mo_worked_b194 R (nI x) (nI d) (nI c) (nI z) s else if nI z = 27 then f_Mo_worked_b194 R (nI x) (nI d) (nI c) (nI z) s else if nI z < 100 then (if 20 ≤ nI z then f_Mo_worked_b243 R (nI x) (nI d) (nI c) (nI z) 0 s else f_ck (vp_in (nI z) 20) <| f_Mo_worked_b243 R (nI x) (nI d) (nI c) (nI z) (mI s 67 (Int32.toNatClampNeg (nI z))) s) else f_Mo_worked_b243 R (nI x) (nI d) (nI c) (nI z) (nI z - 100) s) := by
  obtain ⟨⟨h1, h2, h3⟩, hb, h5, h6, h7, h8⟩ := h
  rw [List.length_cons] at h8
  have e54 : mI s 54 (Int32.toNatClampNeg (nI x)) = nI E := by rw [nI_clamp (by omega)]; exact h6
  have e55 : mI s 55 (Int32.toNatClampNeg (nI c)) = nI z := by rw [nI_clamp (by omega)]; exact h7.1
  unfold f_Mo_worked_b14
  rw [f_ck_of hb, f_ck_of (vp_in_nI h2 (by decide)), e54, if_neg (nI_ge (by omega) (by omega)), f_ck_of (vp_in_nI (by omega) (by decide)), e55]
  first
  | done
  | rfl
theorem mp_num {v : Nat} (hd : d < 5) (hv : v ≤ 9999) : MP P d (eNum v) := by
  intro q x c E F s h
  refine ⟨zl_fl, 0, s, ?_, rfl, ?_, FR.rf _ _ _⟩
  · rw [zl_4096]; omega
  · have h' : MW P q x c E [100 + v] s := h
    show f_Mo_worked_b14 (f_Mo_worked_h14 F) (nI x) (nI d) (nI c) s = _
    have ne : ∀ j : Nat, j < 100 → ¬ nI (100 + v) = nI j := fun j hj => nI_neq (by omega) (by omega) (by omega)
    rw [mw_14 h', if_neg (show ¬ nI (100 + v) = 28 from ne 28 (by decide)), if_neg (show ¬ nI (100 + v) = 30 from ne 30 (by decide)), if_neg (show ¬ nI (100 + v) = 20 from ne 20 (by decide)), if_neg (show ¬ nI (100 + v) = 21 from ne 21 (by decide)), if_neg (show ¬ nI (100 + v) = 22 from ne 22 (by decide)), if_neg (show ¬ nI (100 + v) = 24 from ne 24 (by decide)), if_neg (show ¬ nI (100 + v) = 25 from ne 25 (by decide)), if_neg (show ¬ nI (100 + v) = 26 from ne 26 (by decide)), if_neg (show ¬ nI (100 + v) = 27 from ne 27 (by decide)), if_neg (show ¬ nI (100 + v) < 100 from nI_nlt (b := 100) (by omega) (by omega))]
    unfold f_Mo_worked_b243
    rw [if_neg (show ¬ nI (100 + v) = 29 from ne 29 (by decide)), show nI (100 + v) - 100 = nI v from nI_sub 100 v]
    rfl
theorem mp_nam {p : Nat} (hd : d < 5) (hp : p < P) (hp4 : p < 4) : MP P d (eNam p) := by
  intro q x c E F s h
  refine ⟨zl_fl, 0, s, ?_, rfl, ?_, FR.rf _ _ _⟩
  · rw [zl_4096]; omega
  · have h' : MW P q x c E [1 + p] s := h
    show f_Mo_worked_b14 (f_Mo_worked_h14 F) (nI x) (nI d) (nI c) s = _
    have ne : ∀ j : Nat, 20 ≤ j → j < 100 → ¬ nI (1 + p) = nI j := fun j hj hj2 => nI_neq (by omega) (by omega) (by omega)
    rw [mw_14 h', if_neg (show ¬ nI (1 + p) = 28 from ne 28 (by decide) (by decide)), if_neg (show ¬ nI (1 + p) = 30 from ne 30 (by decide) (by decide)), if_neg (show ¬ nI (1 + p) = 20 from ne 20 (by decide) (by decide)), if_neg (show ¬ nI (1 + p) = 21 from ne 21 (by decide) (by decide)), if_neg (show ¬ nI (1 + p) = 22 from ne 22 (by decide) (by decide)), if_neg (show ¬ nI (1 + p) = 24 from ne 24 (by decide) (by decide)), if_neg (show ¬ nI (1 + p) = 25 from ne 25 (by decide) (by decide)), if_neg (show ¬ nI (1 + p) = 26 from ne 26 (by decide) (by decide)), if_neg (show ¬ nI (1 + p) = 27 from ne 27 (by decide) (by decide)), if_pos (show nI (1 + p) < 100 from nI_lt (b := 100) (by omega) (by decide)), if_neg (show ¬ 20 ≤ nI (1 + p) from nI_ge (b := 20) (by omega) (by decide)), f_ck_of (vp_in_nI (by omega) (by decide)), nI_clamp (by omega), h.2.2.1 p hp]
    unfold f_Mo_worked_b243
    rw [if_neg (show ¬ nI (1 + p) = 29 from ne 29 (by decide) (by decide))]
    rfl
/-- a deeper part begins -/
theorem m_deep {q x c E z : Nat} {l2 : List Nat} (hd : d + 1 < 7) (hz : z = 28 ∨ z = 30) (h : MW P q x c E (z :: l2) s) (F : Nat) : ∃ s', f_Mo_worked_h14 (F + 1) (nI x) (nI d) (nI c) s = f_Mo_worked_h14 F (nI x) (nI (d + 1)) (nI (c + 1)) s' ∧ FR (dF (d + 1)) NoL s s' ∧ fre 0 s' (d + 1) ∧ mI s' 66 (d + 1) = (if z = 30 then 1 else 0) := by
  have hb := h.2.1
  have v7 : vp_in (nI (d + 1)) 7 := vp_in_nI hd (by decide)
  have ed : (nI (d + 1)).toNatClampNeg = d + 1 := nI_clamp (by omega)
  have h66 : ∀ y : Int32, ∃ s', f_Mo_worked_b66 (f_Mo_worked_h14 F) (nI x) (nI (d + 1)) (nI c) (nI (d + 1)) y s = f_Mo_worked_h14 F (nI x) (nI (d + 1)) (nI (c + 1)) s' ∧ FR (dF (d + 1)) NoL s s' ∧ fre 0 s' (d + 1) ∧ mI s' 66 (d + 1) = y := by
    intro y
    obtain ⟨s2, e2, f2, r2⟩ := m_opens (s := uI s 66 (d + 1) y) (d := d + 1) hb hd
    refine ⟨s2, ?_, (fr_uI s _ ⟨rfl, by omega⟩).tr (f2.mo (fun a k g => by unfold oF at g; unfold dF; omega) (fun _ _ g => g)), r2, (f2.2.1 66 _ (by unfold oF; omega)).trans (mI_at _ _ _ _)⟩
    unfold f_Mo_worked_b66 f_Mo_worked_b329
    rw [f_ck_of hb, f_ck_of v7, ed]
    refine (f_bd_of e2).trans ?_
    rw [nI_1]
  show ∃ s', f_Mo_worked_b14 (f_Mo_worked_h14 F) (nI x) (nI d) (nI c) s = _ ∧ _
  rw [mw_14 h]
  rcases hz with rfl | rfl
  · rw [if_pos (show nI 28 = 28 from rfl)]
    unfold f_Mo_worked_b46
    rw [f_ck_of hb, if_neg (show ¬ nI 28 = 30 by decide), nI_1]
    exact h66 0
  · rw [if_neg (show ¬ nI 30 = 28 by decide), if_pos (show nI 30 = 30 from rfl)]
    unfold f_Mo_worked_b46
    rw [f_ck_of hb, if_pos (show nI 30 = 30 from rfl), nI_1]
    exact h66 1
theorem mp_not {a : Ev} (hd : d + 1 < 5) (h : MP P (d + 1) a) : MP P d (eNot a) := by
  intro q x c E F s hw
  have hw' : MW P q x c E (30 :: a.2.1) s := hw
  have hlen : (eNot a).2.1.length = a.2.1.length + 1 := by
    show (30 :: a.2.1).length = _
    rw [List.length_cons]
  rw [hlen]
  obtain ⟨s1, e1, f1, -, b1⟩ := m_deep (d := d) (by omega) (Or.inr rfl) hw' (F + a.2.1.length)
  have w1 : MW P q x (c + 1) E a.2.1 s1 := (hw'.f f1 (fun a k g => by unfold dF at g; omega)).c
  obtain ⟨G, j, s2, hG, hj, e2, f2⟩ := h q x (c + 1) E F s1 w1
  have b2 : mI s2 66 (d + 1) = 1 := by
    rw [f2.2.1 66 (d + 1) (by unfold mF; omega), b1, if_pos rfl]
  obtain ⟨G, rfl⟩ : ∃ g, G = g + 1 := ⟨G - 1, by omega⟩
  refine ⟨G, j + 1, s2, by omega, by omega, ?_, (f1.mo (fun a k g => by unfold dF at g; unfold mF; omega) (fun _ _ g => g)).tr (f2.mo (fun a k g => by unfold mF at g ⊢; omega) (fun _ _ g => g))⟩
  rw [show F + (a.2.1.length + 1) = F + a.2.1.length + 1 by omega, e1, e2]
  show f_Mo_worked_b268 (f_Mo_worked_h14 F) (f_Mo_worked_h268 (f_Mo_worked_h14 F) G) (nI x) (nI (d + 1)) (nI (c + 1 + j)) (a.2.2 q) s2 = _
  unfold f_Mo_worked_b268 f_Mo_worked_b292
  have hb2 := f2.b w1.2.1
  rw [if_neg (nI_nle (by omega) (by omega)), f_ck_of hb2, f_ck_of (vp_in_nI (by omega) (by decide)), nI_clamp (by omega), if_pos b2, pk_m1, show c + 1 + j = c + (j + 1) by omega]
  show _ = f_Mo_worked_h268 (f_Mo_worked_h14 F) G (nI x) (nI d) (nI (c + (j + 1))) (if a.2.2 q = 0 then 1 else 0) s2
  by_cases z : a.2.2 q = 0
  · rw [if_pos z, if_pos z]
  · rw [if_neg z, if_neg z]
theorem mp_par {a : Ev} (hd : d + 1 < 5) (h : MJ P 0 (d + 1) a) : MP P d (ePar a) := by
  intro q x c E F s hw
  have hw' : MW P q x c E (28 :: (a.2.1 ++ [29])) s := hw
  have hlen : (ePar a).2.1.length = a.2.1.length + 1 + 1 := by
    show (28 :: (a.2.1 ++ [29])).length = _
    rw [List.length_cons, List.length_append]
    rfl
  rw [hlen]
  obtain ⟨s1, e1, f1, r1, b1⟩ := m_deep (d := d) (by omega) (Or.inl rfl) hw' (F + 1 + a.2.1.length)
  have w1 : MW P q x (c + 1) E (a.2.1 ++ [29]) s1 := (hw'.f f1 (fun a k g => by unfold dF at g; omega)).c
  obtain ⟨w2, w3⟩ := w1.sp
  obtain ⟨s2, e2, f2, v2⟩ := h q x (c + 1) E (F + 1) s1 (Or.inr (by rw [b1]; rfl)) w2 r1
  have w4 := w3.f f2 mF_58
  obtain ⟨s3, e3, f3, v3, -⟩ := m_tests (s := s2) (d := d + 1) w4.2.1 (by omega)
  have hb3 := f3.b w4.2.1
  refine ⟨zl_fl, a.2.1.length + 1, s3, by rw [zl_4096]; omega, rfl, ?_, ((f1.mo (fun a k g => by unfold dF at g; unfold mF; omega) (fun _ _ g => g)).tr (f2.mo (fun a k g => by unfold mF at g ⊢; omega) (fun _ _ g => g))).tr (f3.mo (fun a k g => by unfold tFr at g; unfold mF; omega) (fun _ _ g => g))⟩
  rw [show F + (a.2.1.length + 1 + 1) = F + 1 + a.2.1.length + 1 by omega, e1, e2]
  show f_Mo_worked_b14 (f_Mo_worked_h14 F) (nI x) (nI (d + 1)) (nI (c + 1 + a.2.1.length)) s2 = _
  rw [mw_14 w4, if_neg (show ¬ nI 29 = 28 by decide), if_neg (show ¬ nI 29 = 30 by decide), if_neg (show ¬ nI 29 = 20 by decide), if_neg (show ¬ nI 29 = 21 by decide), if_neg (show ¬ nI 29 = 22 by decide), if_neg (show ¬ nI 29 = 24 by decide), if_neg (show ¬ nI 29 = 25 by decide), if_neg (show ¬ nI 29 = 26 by decide), if_neg (show ¬ nI 29 = 27 by decide), if_pos (show nI 29 < 100 by decide), if_pos (show (20 : Int32) ≤ nI 29 by decide)]
  unfold f_Mo_worked_b243
  rw [if_pos (show nI 29 = 29 from rfl), f_ck_of w4.2.1, f_bd_of e3, f_ck_of hb3, f_ck_of (vp_in_nI (by omega) (by decide)), nI_clamp (by omega), v3, pk_m1, show c + 1 + a.2.1.length = c + (a.2.1.length + 1) by omega]
  have ev : VV0 s2 (d + 1) = (ePar a).2.2 q := v2
  rw [ev]
theorem mj4_of {a : Ev} (hd : d < 5) (h : MP P d a) : MJ4 P d a := by
  intro q x c E F s h0 hw
  obtain ⟨G, j, s1, hG, hj, e1, f1⟩ := h q x c E F s hw
  obtain ⟨G, rfl⟩ : ∃ g, G = g + 1 := ⟨G - 1, by omega⟩
  have hb1 := f1.b hw.2.1
  have r : ∀ a, mI s1 a d = mI s a d := fun a => f1.2.1 a d (by unfold mF; omega)
  refine ⟨uI s1 64 d (if mI s 65 d = 0 then a.2.2 q else mI s 64 d * a.2.2 q), ?_, (f1.mo (fun a k g => by unfold mF at g; unfold mF4; omega) (fun _ _ g => g)).tr (fr_uI _ _ (Or.inr ⟨rfl, rfl⟩)), mI_at _ _ _ _⟩
  rw [e1, hj]
  show f_Mo_worked_b268 (f_Mo_worked_h14 F) (f_Mo_worked_h268 (f_Mo_worked_h14 F) G) (nI x) (nI d) (nI (c + j)) (a.2.2 q) s1 = _
  have v7 : vp_in (nI d) 7 := vp_in_nI (by omega) (by decide)
  have ed : (nI d).toNatClampNeg = d := nI_clamp (by omega)
  have h300 : f_Mo_worked_b300 (f_Mo_worked_h14 F) (nI x) (nI d) (nI (c + j)) (a.2.2 q) s1 = f_Mo_worked_h14 F (nI x) (nI d) (nI (c + (j + 1))) (uI s1 64 d (if mI s 65 d = 0 then a.2.2 q else mI s 64 d * a.2.2 q)) := by
    unfold f_Mo_worked_b300 f_Mo_worked_b328 f_Mo_worked_b329
    rw [f_ck_of hb1, f_ck_of v7, ed, r 65]
    by_cases z : mI s 65 d = 0
    · rw [if_pos z, if_pos z, f_ck_of hb1, f_ck_of v7]
      simp only [nI_1, Nat.add_assoc]
    · rw [if_neg z, if_neg z, f_ck_of v7, f_ck_of hb1, f_ck_of v7, r 64]
      simp only [nI_1, Nat.add_assoc]
  unfold f_Mo_worked_b268
  by_cases d0 : d = 0
  · rw [if_pos (show nI d ≤ 0 by rw [d0]; decide)]
    exact h300
  · rw [if_neg (nI_nle (by omega) (by omega)), f_ck_of hb1, f_ck_of v7, ed, r 66, if_neg (show ¬ mI s 66 d = 1 by rw [h0.resolve_left d0]; decide)]
    exact h300
theorem mj3_of {a : Ev} (h : MJ4 P d a) : MJ P 3 d a := by
  intro q x c E F s h0 hw hf
  obtain ⟨s1, e1, f1, v1⟩ := h q x c E F s h0 hw
  refine ⟨s1, e1, f1.mo (fun a k g => by unfold mF4 at g; unfold mF; omega) (fun _ _ g => g), ?_⟩
  show mI s1 64 d = _
  rw [v1, if_pos hf.1]
theorem mj2_of {a : Ev} (h : MJ P 3 d a) : MJ P 2 d a := by
  intro q x c E F s h0 hw hf
  obtain ⟨s1, e1, f1, v1⟩ := h q x c E F s h0 hw ⟨hf.1, fun z => absurd z (by decide), fun z => absurd z (by decide), fun z => absurd z (by decide)⟩
  have v1' : mI s1 64 d = a.2.2 q := v1
  obtain ⟨r62, r63⟩ := hf.2.1 (by decide)
  refine ⟨s1, e1, f1.mo (fun a k g => by unfold mF at g ⊢; omega) (fun _ _ g => g), ?_⟩
  show VV2 s1 d = _
  unfold VV2
  rw [f1.2.1 63 d (by unfold mF; omega), f1.2.1 62 d (by unfold mF; omega), r62, r63, if_neg (by decide), v1', Int32.zero_add]
theorem mj1_of {a : Ev} (h : MJ P 2 d a) : MJ P 1 d a := by
  intro q x c E F s h0 hw hf
  obtain ⟨s1, e1, f1, v1⟩ := h q x c E F s h0 hw ⟨hf.1, fun _ => hf.2.1 (by decide), fun z => absurd z (by decide), fun z => absurd z (by decide)⟩
  have v1' : VV2 s1 d = a.2.2 q := v1
  refine ⟨s1, e1, f1.mo (fun a k g => by unfold mF at g ⊢; omega) (fun _ _ g => g), ?_⟩
  show VV1 s1 d = _
  unfold VV1
  rw [f1.2.1 61 d (by unfold mF; omega), hf.2.2.1 (by decide), if_neg (by decide), if_neg (by decide), v1']
theorem mj0_of {a : Ev} (h : MJ P 1 d a) : MJ P 0 d a := by
  intro q x c E F s h0 hw hf
  obtain ⟨s1, e1, f1, v1⟩ := h q x c E F s h0 hw ⟨hf.1, fun _ => hf.2.1 (by decide), fun _ => hf.2.2.1 (by decide), fun z => absurd z (by decide)⟩
  have v1' : VV1 s1 d = a.2.2 q := v1
  refine ⟨s1, e1, f1.mo (fun a k g => by unfold mF at g ⊢; omega) (fun _ _ g => g), ?_⟩
  show VV0 s1 d = _
  unfold VV0
  rw [f1.2.1 59 d (by unfold mF; omega), hf.2.2.2 rfl, if_neg (by decide), if_neg (by decide), v1']
/-- two sums and what stands between them -/
theorem bin_w {q x c E k : Nat} {a b : Ev} (hw : MW P q x c E (eBin k a b).2.1 s) : MW P q x c E a.2.1 s ∧ MW P q x (c + a.2.1.length) E (mop k :: b.2.1) s ∧ (eBin k a b).2.1.length = a.2.1.length + (b.2.1.length + 1) := by
  have hw' : MW P q x c E (a.2.1 ++ (mop k :: b.2.1)) s := hw
  refine ⟨hw'.sp.1, hw'.sp.2, ?_⟩
  show (a.2.1 ++ (mop k :: b.2.1)).length = _
  rw [List.length_append, List.length_cons]
theorem mj_bin3 {a b : Ev} (hd : d < 5) (ha : MJ P 3 d a) (hb : MJ4 P d b) : MJ P 3 d (eBin 42 a b) := by
  intro q x c E F s h0 hw hf
  obtain ⟨w1, w2, hlen⟩ := bin_w hw
  rw [hlen]
  obtain ⟨s1, e1, f1, v1⟩ := ha q x c E (F + (b.2.1.length + 1)) s h0 w1 hf
  have v1' : mI s1 64 d = a.2.2 q := v1
  have w3 := w2.f f1 mF_58
  have f2 : FR (mF 3 d) NoL s1 (uI s1 65 d 22) := fr_uI _ _ (Or.inr ⟨rfl, by omega⟩)
  obtain ⟨s3, e3, f3, v3⟩ := hb q x (c + a.2.1.length + 1) E F (uI s1 65 d 22) (h0.imp id (fun z => ((f1.tr f2).2.1 66 d (by unfold mF; omega)).trans z)) (w3.f f2 mF_58).c
  refine ⟨s3, ?_, (f1.tr f2).tr (f3.mo (fun a k g => by unfold mF4 at g; unfold mF; omega) (fun _ _ g => g)), ?_⟩
  · rw [show F + (a.2.1.length + (b.2.1.length + 1)) = F + (b.2.1.length + 1) + a.2.1.length by omega, e1, show c + (a.2.1.length + (b.2.1.length + 1)) = c + a.2.1.length + 1 + b.2.1.length by omega, ← e3]
    show f_Mo_worked_b14 (f_Mo_worked_h14 (F + b.2.1.length)) (nI x) (nI d) (nI (c + a.2.1.length)) s1 = _
    rw [mw_14 w3, show mop 42 = 22 from rfl, if_neg (show ¬ nI 22 = 28 by decide), if_neg (show ¬ nI 22 = 30 by decide), if_neg (show ¬ nI 22 = 20 by decide), if_neg (show ¬ nI 22 = 21 by decide), if_pos (show nI 22 = 22 from rfl), f_ck_of (vp_in_nI (by omega) (by decide)), nI_clamp (by omega)]
    unfold f_Mo_worked_b329
    rw [nI_1]
    rfl
  · show mI s3 64 d = jn 42 (a.2.2 q) (b.2.2 q)
    rw [v3, mI_at, if_neg (by decide), mI_ne _ _ (by omega), v1']
    rfl
theorem mj_bin2 {k : Nat} {a b : Ev} (hd : d < 5) (hk : k = 43 ∨ k = 45) (ha : MJ P 2 d a) (hb : MJ P 3 d b) : MJ P 2 d (eBin k a b) := by
  intro q x c E F s h0 hw hf
  obtain ⟨w1, w2, hlen⟩ := bin_w hw
  rw [hlen]
  obtain ⟨s1, e1, f1, v1⟩ := ha q x c E (F + (b.2.1.length + 1)) s h0 w1 hf
  have v1' : VV2 s1 d = a.2.2 q := v1
  have w3 := w2.f f1 mF_58
  have f2 : FR (mF 2 d) NoL s1 (uI (uI (uI s1 62 d (VV2 s1 d)) 65 d 0) 63 d (nI (mop k))) := ((fr_uI _ _ (Or.inr ⟨rfl, by omega⟩)).tr (fr_uI _ _ (Or.inr ⟨rfl, by omega⟩))).tr (fr_uI _ _ (Or.inr ⟨rfl, by omega⟩))
  obtain ⟨s3, e3, f3, v3⟩ := hb q x (c + a.2.1.length + 1) E F _ (h0.imp id (fun z => ((f1.tr f2).2.1 66 d (by unfold mF; omega)).trans z)) (w3.f f2 mF_58).c ⟨by rw [mI_ne _ _ (by omega)]; exact mI_at _ _ _ _, fun z => absurd z (by decide), fun z => absurd z (by decide), fun z => absurd z (by decide)⟩
  have v3' : mI s3 64 d = b.2.2 q := v3
  have v7 : vp_in (nI d) 7 := vp_in_nI (by omega) (by decide)
  have hz : mop k = 20 ∨ mop k = 21 := by rcases hk with rfl | rfl <;> first | exact Or.inl rfl | exact Or.inr rfl
  refine ⟨s3, ?_, (f1.tr f2).tr (f3.mo (fun a k g => by unfold mF at g ⊢; omega) (fun _ _ g => g)), ?_⟩
  · rw [show F + (a.2.1.length + (b.2.1.length + 1)) = F + (b.2.1.length + 1) + a.2.1.length by omega, e1, show c + (a.2.1.length + (b.2.1.length + 1)) = c + a.2.1.length + 1 + b.2.1.length by omega, ← e3]
    show f_Mo_worked_b14 (f_Mo_worked_h14 (F + b.2.1.length)) (nI x) (nI d) (nI (c + a.2.1.length)) s1 = _
    have h89 : f_Mo_worked_b89 (f_Mo_worked_h14 (F + b.2.1.length)) (nI x) (nI d) (nI (c + a.2.1.length)) (nI (mop k)) s1 = f_Mo_worked_h14 (F + b.2.1.length) (nI x) (nI d) (nI (c + a.2.1.length + 1)) (uI (uI (uI s1 62 d (VV2 s1 d)) 65 d 0) 63 d (nI (mop k))) := by
      unfold f_Mo_worked_b89 f_Mo_worked_b329
      rw [f_ck_of w3.2.1, f_bd_of (m_sums w3.2.1 (by omega)), nI_clamp (by omega), nI_1]
      exact (f_ck_of (show zl_B (uI (uI s1 62 d (VV2 s1 d)) 65 d 0) from w3.2.1)).trans (f_ck_of v7)
    rw [mw_14 w3, h89]
    rcases hz with hz | hz
    · rw [hz, if_neg (show ¬ nI 20 = 28 by decide), if_neg (show ¬ nI 20 = 30 by decide), if_pos (show nI 20 = 20 from rfl)]
    · rw [hz, if_neg (show ¬ nI 21 = 28 by decide), if_neg (show ¬ nI 21 = 30 by decide), if_neg (show ¬ nI 21 = 20 by decide), if_pos (show nI 21 = 21 from rfl)]
  · show VV2 s3 d = jn k (a.2.2 q) (b.2.2 q)
    unfold VV2
    rw [f3.2.1 63 d (by unfold mF; omega), f3.2.1 62 d (by unfold mF; omega), mI_at, v3', mI_ne _ _ (by omega), mI_ne _ _ (by omega), mI_at, v1']
    rcases hk with rfl | rfl
    · rw [if_neg (show ¬ nI (mop 43) = 21 by decide)]; rfl
    · rw [if_pos (show nI (mop 45) = 21 by decide)]; rfl
theorem mj_bin1 {k : Nat} {a b : Ev} (hd : d < 5) (hk : k = 60 ∨ k = 61) (ha : MJ P 2 d a) (hb : MJ P 2 d b) : MJ P 1 d (eBin k a b) := by
  intro q x c E F s h0 hw hf
  obtain ⟨w1, w2, hlen⟩ := bin_w hw
  rw [hlen]
  obtain ⟨s1, e1, f1, v1⟩ := ha q x c E (F + (b.2.1.length + 1)) s h0 w1 ⟨hf.1, fun _ => hf.2.1 (by decide), fun z => absurd z (by decide), fun z => absurd z (by decide)⟩
  have v1' : VV2 s1 d = a.2.2 q := v1
  have w3 := w2.f f1 mF_58
  have f2 : FR (mF 1 d) NoL s1 (uI (uI (uI (uI (uI (uI s1 62 d (VV2 s1 d)) 65 d 0) 60 d (VV2 s1 d)) 61 d (nI (mop k))) 62 d 0) 63 d 20) := (((((fr_uI _ _ (Or.inr ⟨rfl, by omega⟩)).tr (fr_uI _ _ (Or.inr ⟨rfl, by omega⟩))).tr (fr_uI _ _ (Or.inr ⟨rfl, by omega⟩))).tr (fr_uI _ _ (Or.inr ⟨rfl, by omega⟩))).tr (fr_uI _ _ (Or.inr ⟨rfl, by omega⟩))).tr (fr_uI _ _ (Or.inr ⟨rfl, by omega⟩))
  have f12 : FR (mF 1 d) NoL s _ := (f1.mo (fun a k g => by unfold mF at g ⊢; omega) (fun _ _ g => g)).tr f2
  obtain ⟨s3, e3, f3, v3⟩ := hb q x (c + a.2.1.length + 1) E F _ (h0.imp id (fun z => (f12.2.1 66 d (by unfold mF; omega)).trans z)) (w3.f f2 mF_58).c ⟨by rw [mI_ne _ _ (by omega), mI_ne _ _ (by omega), mI_ne _ _ (by omega), mI_ne _ _ (by omega)]; exact mI_at _ _ _ _, fun _ => ⟨by rw [mI_ne _ _ (by omega)]; exact mI_at _ _ _ _, mI_at _ _ _ _⟩, fun z => absurd z (by decide), fun z => absurd z (by decide)⟩
  have v3' : VV2 s3 d = b.2.2 q := v3
  have v7 : vp_in (nI d) 7 := vp_in_nI (by omega) (by decide)
  have hz : mop k = 24 ∨ mop k = 25 := by rcases hk with rfl | rfl <;> first | exact Or.inl rfl | exact Or.inr rfl
  refine ⟨s3, ?_, f12.tr (f3.mo (fun a k g => by unfold mF at g ⊢; omega) (fun _ _ g => g)), ?_⟩
  · rw [show F + (a.2.1.length + (b.2.1.length + 1)) = F + (b.2.1.length + 1) + a.2.1.length by omega, e1, show c + (a.2.1.length + (b.2.1.length + 1)) = c + a.2.1.length + 1 + b.2.1.length by omega, ← e3]
    show f_Mo_worked_b14 (f_Mo_worked_h14 (F + b.2.1.length)) (nI x) (nI d) (nI (c + a.2.1.length)) s1 = _
    have h137 : f_Mo_worked_b137 (f_Mo_worked_h14 (F + b.2.1.length)) (nI x) (nI d) (nI (c + a.2.1.length)) (nI (mop k)) s1 = f_Mo_worked_h14 (F + b.2.1.length) (nI x) (nI d) (nI (c + a.2.1.length + 1)) (uI (uI (uI (uI (uI (uI s1 62 d (VV2 s1 d)) 65 d 0) 60 d (VV2 s1 d)) 61 d (nI (mop k))) 62 d 0) 63 d 20) := by
      have r62 : mI (uI (uI s1 62 d (VV2 s1 d)) 65 d 0) 62 d = VV2 s1 d := by rw [mI_ne _ _ (by omega)]; exact mI_at _ _ _ _
      unfold f_Mo_worked_b137 f_Mo_worked_b329
      rw [f_ck_of w3.2.1, f_bd_of (m_sums w3.2.1 (by omega)), nI_clamp (by omega), nI_1, r62]
      exact (f_ck_of (show zl_B (uI (uI s1 62 d (VV2 s1 d)) 65 d 0) from w3.2.1)).trans ((f_ck_of v7).trans ((f_ck_of v7).trans ((f_ck_of v7).trans ((f_ck_of v7).trans (f_ck_of v7)))))
    rw [mw_14 w3, h137]
    rcases hz with hz | hz
    · rw [hz, if_neg (show ¬ nI 24 = 28 by decide), if_neg (show ¬ nI 24 = 30 by decide), if_neg (show ¬ nI 24 = 20 by decide), if_neg (show ¬ nI 24 = 21 by decide), if_neg (show ¬ nI 24 = 22 by decide), if_pos (show nI 24 = 24 from rfl)]
    · rw [hz, if_neg (show ¬ nI 25 = 28 by decide), if_neg (show ¬ nI 25 = 30 by decide), if_neg (show ¬ nI 25 = 20 by decide), if_neg (show ¬ nI 25 = 21 by decide), if_neg (show ¬ nI 25 = 22 by decide), if_neg (show ¬ nI 25 = 24 by decide), if_pos (show nI 25 = 25 from rfl)]
  · show VV1 s3 d = jn k (a.2.2 q) (b.2.2 q)
    unfold VV1
    rw [v3', f3.2.1 61 d (by unfold mF; omega), f3.2.1 60 d (by unfold mF; omega), mI_ne _ _ (by omega), mI_ne _ _ (by omega), mI_at, mI_ne _ _ (by omega), mI_ne _ _ (by omega), mI_ne _ _ (by omega), mI_at, v1']
    rcases hk with rfl | rfl
    · rw [if_pos (show nI (mop 60) = 24 by decide)]; rfl
    · rw [if_neg (show ¬ nI (mop 61) = 24 by decide), if_pos (show nI (mop 61) = 25 by decide)]; rfl
theorem mj_bin0 {k : Nat} {a b : Ev} (hd : d < 5) (hk : k = 10 ∨ k = 11) (ha : MJ P 0 d a) (hb : MJ P 1 d b) : MJ P 0 d (eBin k a b) := by
  intro q x c E F s h0 hw hf
  obtain ⟨w1, w2, hlen⟩ := bin_w hw
  rw [hlen]
  obtain ⟨s1, e1, f1, v1⟩ := ha q x c E (F + (b.2.1.length + 1)) s h0 w1 hf
  have v1' : VV0 s1 d = a.2.2 q := v1
  have w3 := w2.f f1 mF_58
  obtain ⟨t, et, ft, t58, t61, t62, t63, t65⟩ := m_tests (s := s1) (d := d) w3.2.1 (by omega)
  have f2 : FR (mF 0 d) NoL s1 (uI t 59 d (nI (mop k))) := (ft.mo (fun a k g => by unfold tFr at g; unfold mF; omega) (fun _ _ g => g)).tr (fr_uI _ _ (Or.inr ⟨rfl, by omega⟩))
  have f12 : FR (mF 0 d) NoL s _ := f1.tr f2
  have ru : ∀ a, a ≠ 59 → mI (uI t 59 d (nI (mop k))) a d = mI t a d := fun a g => mI_ne _ _ (by omega)
  obtain ⟨s3, e3, f3, v3⟩ := hb q x (c + a.2.1.length + 1) E F _ (h0.imp id (fun z => (f12.2.1 66 d (by unfold mF; omega)).trans z)) (w3.f f2 mF_58).c ⟨(ru 65 (by decide)).trans t65, fun _ => ⟨(ru 62 (by decide)).trans t62, (ru 63 (by decide)).trans t63⟩, fun _ => (ru 61 (by decide)).trans t61, fun z => absurd z (by decide)⟩
  have v3' : VV1 s3 d = b.2.2 q := v3
  have v7 : vp_in (nI d) 7 := vp_in_nI (by omega) (by decide)
  have hz : mop k = 26 ∨ mop k = 27 := by rcases hk with rfl | rfl <;> first | exact Or.inl rfl | exact Or.inr rfl
  refine ⟨s3, ?_, f12.tr (f3.mo (fun a k g => by unfold mF at g ⊢; omega) (fun _ _ g => g)), ?_⟩
  · rw [show F + (a.2.1.length + (b.2.1.length + 1)) = F + (b.2.1.length + 1) + a.2.1.length by omega, e1, show c + (a.2.1.length + (b.2.1.length + 1)) = c + a.2.1.length + 1 + b.2.1.length by omega, ← e3]
    show f_Mo_worked_b14 (f_Mo_worked_h14 (F + b.2.1.length)) (nI x) (nI d) (nI (c + a.2.1.length)) s1 = _
    have h194 : f_Mo_worked_b194 (f_Mo_worked_h14 (F + b.2.1.length)) (nI x) (nI d) (nI (c + a.2.1.length)) (nI (mop k)) s1 = f_Mo_worked_h14 (F + b.2.1.length) (nI x) (nI d) (nI (c + a.2.1.length + 1)) (uI t 59 d (nI (mop k))) := by
      unfold f_Mo_worked_b194 f_Mo_worked_b329
      rw [f_ck_of w3.2.1, f_bd_of et, f_ck_of (ft.b w3.2.1), f_ck_of v7, nI_clamp (by omega), nI_1]
    rw [mw_14 w3, h194]
    rcases hz with hz | hz
    · rw [hz, if_neg (show ¬ nI 26 = 28 by decide), if_neg (show ¬ nI 26 = 30 by decide), if_neg (show ¬ nI 26 = 20 by decide), if_neg (show ¬ nI 26 = 21 by decide), if_neg (show ¬ nI 26 = 22 by decide), if_neg (show ¬ nI 26 = 24 by decide), if_neg (show ¬ nI 26 = 25 by decide), if_pos (show nI 26 = 26 from rfl)]
    · rw [hz, if_neg (show ¬ nI 27 = 28 by decide), if_neg (show ¬ nI 27 = 30 by decide), if_neg (show ¬ nI 27 = 20 by decide), if_neg (show ¬ nI 27 = 21 by decide), if_neg (show ¬ nI 27 = 22 by decide), if_neg (show ¬ nI 27 = 24 by decide), if_neg (show ¬ nI 27 = 25 by decide), if_neg (show ¬ nI 27 = 26 by decide), if_pos (show nI 27 = 27 from rfl)]
  · show VV0 s3 d = jn k (a.2.2 q) (b.2.2 q)
    unfold VV0
    rw [v3', f3.2.1 59 d (by unfold mF; omega), f3.2.1 58 d (by unfold mF; omega), mI_at, ru 58 (by decide), t58, v1']
    rcases hk with rfl | rfl
    · rw [if_pos (show nI (mop 10) = 26 by decide)]; rfl
    · rw [if_neg (show ¬ nI (mop 11) = 26 by decide), if_pos (show nI (mop 11) = 27 by decide)]; rfl
/-- a line's worth -/
theorem m_line {a : Ev} (h : MJ P 0 0 a) {q x c : Nat} (hx : x < 16) (hq : q < 256) (hb : zl_B s) (hv : ∀ p, p < P → mI s 67 (1 + p) = nI (sStep q p)) (h1 : mI s 53 x = nI c) (h2 : mI s 54 x = nI (c + a.2.1.length)) (hm : c + a.2.1.length ≤ 2000) (hc : HC s 55 c a.2.1) : ∃ s', f_Mo_worked (nI x) s = some (a.2.2 q, s') ∧ FR lF NoL s s' := by
  obtain ⟨s0, e0, f0, r0⟩ := m_opens (s := s) (d := 0) hb (by decide)
  have w0 : MW P q x c (c + a.2.1.length) a.2.1 s := ⟨⟨hq, hx, hm⟩, hb, hv, h2, hc, Nat.le_refl _⟩
  have w1 := w0.f f0 (fun a k g => by unfold oF at g; omega)
  have hz := zl_4096
  obtain ⟨s1, e1, f1, v1⟩ := h q x c _ (zl_fl - a.2.1.length) s0 (Or.inl rfl) w1 r0
  have w2 := w1.f f1 mF_58
  obtain ⟨s2, e2, f2, v2, -⟩ := m_tests (s := s1) (d := 0) w2.2.1 (by decide)
  refine ⟨s2, ?_, ((f0.mo (fun a k g => by unfold oF at g; show 58 ≤ a ∧ a ≤ 66; omega) (fun _ _ g => g)).tr (f1.mo mF_58 (fun _ _ g => g))).tr (f2.mo (fun a k g => by unfold tFr at g; show 58 ≤ a ∧ a ≤ 66; omega) (fun _ _ g => g))⟩
  rw [show zl_fl - a.2.1.length + a.2.1.length = zl_fl by omega] at e1
  obtain ⟨F, hF⟩ : ∃ F, zl_fl - a.2.1.length = F + 1 := ⟨zl_fl - a.2.1.length - 1, by omega⟩
  rw [hF] at e1
  unfold f_Mo_worked
  rw [f_ck_of hb, f_bd_of (show f_Mo_opens 0 s = some ((), s0) from e0), f_ck_of w1.2.1, f_ck_of (vp_in_nI hx (by decide)), nI_clamp (by omega), f0.2.1 53 x (by unfold oF; omega), h1]
  refine (show f_Mo_worked_h14 zl_fl (nI x) 0 (nI c) s0 = _ from e1).trans ?_
  show f_Mo_worked_b14 (f_Mo_worked_h14 F) (nI x) (nI 0) (nI (c + a.2.1.length)) s1 = _
  unfold f_Mo_worked_b14 f_Mo_worked_b335
  rw [f_ck_of w2.2.1, f_ck_of (vp_in_nI hx (by decide)), nI_clamp (by omega), w2.2.2.2.1, if_pos (nI_le (Nat.le_refl _) (by omega)), f_ck_of w2.2.1, f_bd_of (show f_Mo_tests 0 s1 = some ((), s2) from e2), f_ck_of (f2.b w2.2.1)]
  show some (mI s2 58 0, s2) = _
  have v1' : VV0 s1 0 = a.2.2 q := v1
  rw [v2, v1']
end
