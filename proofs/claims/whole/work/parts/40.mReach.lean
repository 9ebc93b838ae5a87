/-! the owning as it is, and what it reaches: the model -/
section
/-- the same world but for what a question sets -/
def eqW (V V' : Vw) : Prop := ∀ b j, trp b j = false → V' b j = V b j
theorem eqW.rf (V : Vw) : eqW V V := fun _ _ _ => rfl
theorem eqW.trans {V V' V2 : Vw} (h : eqW V V') (k : eqW V' V2) : eqW V V2 := fun b j hb => (k b j hb).trans (h b j hb)
theorem eqW.vU {V : Vw} {a k : Nat} (ht : trp a k = true) (x : Int32) : eqW V (vU V a k x) := fun b j hb => vU_tr ht x b j hb
theorem eqW_pN {V V' : Vw} (h : eqW V V') : pN V' = pN V := by unfold pN; rw [h 46 10 rfl]
theorem eqW_tN {V V' : Vw} (h : eqW V V') : tN V' = tN V := by unfold tN; rw [h 46 11 rfl]
theorem eqW_kN {V V' : Vw} (h : eqW V V') : kN V' = kN V := by unfold kN; rw [h 46 12 rfl]
theorem eqW_sN {V V' : Vw} (h : eqW V V') (p : Nat) : sN V' p = sN V p := by unfold sN; rw [h 49 p rfl]
theorem vLay_eq (V : Vw) (c t : Nat) (ow nd : Int32) : eqW V (vLay V c t ow nd) := by
  unfold vLay
  exact (((eqW.vU rfl _).trans (eqW.vU rfl _)).trans (eqW.vU rfl _)).trans (eqW.vU rfl _)
/-- at the context c of V the owning ow, nd is laid, and the later one behind it -/
def laid (V : Vw) (c : Nat) (ow nd : Nat → Int32) (m : Nat) : Prop := ∀ t, t < m → V 74 (c + t) = ow t ∧ V 75 (c + t) = nd t ∧ V 74 (c + 3 + t) = (if V 73 t = 0 then ow t else V 71 t) ∧ V 75 (c + 3 + t) = (if V 73 t = 0 then nd t else V 72 t)
/-- nothing of the other context is touched -/
def offC (V V' : Vw) (c : Nat) : Prop := ∀ b k, (b = 74 ∨ b = 75) → ¬ (c ≤ k ∧ k < c + 6) → V' b k = V b k
theorem vLay_off (V : Vw) {c t : Nat} (ht : t < 3) (ow nd : Int32) : offC V (vLay V c t ow nd) c := by
  intro b k hb hk
  unfold vLay
  rw [vU_ne _ _ (by omega), vU_ne _ _ (by omega), vU_ne _ _ (by omega), vU_ne _ _ (by omega)]
theorem vLay_no (V : Vw) (c t : Nat) (ow nd : Int32) (b k : Nat) (hb : b ≠ 74 ∧ b ≠ 75) : vLay V c t ow nd b k = V b k := by
  unfold vLay
  rw [vU_ne _ _ (by omega), vU_ne _ _ (by omega), vU_ne _ _ (by omega), vU_ne _ _ (by omega)]
theorem vLay_at (V : Vw) {c t : Nat} (ht : t < 3) (ow nd : Int32) : vLay V c t ow nd 74 (c + t) = ow ∧ vLay V c t ow nd 75 (c + t) = nd ∧ vLay V c t ow nd 74 (c + 3 + t) = (if V 73 t = 0 then ow else V 71 t) ∧ vLay V c t ow nd 75 (c + 3 + t) = (if V 73 t = 0 then nd else V 72 t) := by
  unfold vLay
  refine ⟨?_, ?_, ?_, vU_at _ _ _ _⟩
  · rw [vU_ne _ _ (by omega), vU_ne _ _ (by omega), vU_ne _ _ (by omega), vU_at]
  · rw [vU_ne _ _ (by omega), vU_ne _ _ (by omega), vU_at]
  · rw [vU_ne _ _ (by omega), vU_at]
theorem vLay_ot (V : Vw) {c t u : Nat} (ht : t < 3) (hu : u < 3) (htu : u ≠ t) (ow nd : Int32) : vLay V c t ow nd 74 (c + u) = V 74 (c + u) ∧ vLay V c t ow nd 75 (c + u) = V 75 (c + u) ∧ vLay V c t ow nd 74 (c + 3 + u) = V 74 (c + 3 + u) ∧ vLay V c t ow nd 75 (c + 3 + u) = V 75 (c + 3 + u) := by
  unfold vLay
  refine ⟨?_, ?_, ?_, ?_⟩ <;> rw [vU_ne _ _ (by omega), vU_ne _ _ (by omega), vU_ne _ _ (by omega), vU_ne _ _ (by omega)]
variable {V : Vw} {s : Sg}
theorem m_laysAll_h {c : Nat} (hc : c ≤ 6) : ∀ (k t n : Nat) (V : Vw) (s : Sg), RM V s → t + k = 3 → k < n → laid V c (fun t => V 69 t) (fun t => V 70 t) t →
    ∃ s' V', f_Mo_laysAll_h2 n (nI c) (nI t) s = some ((), s') ∧ RM V' s' ∧ FM s s' ∧ eqW V V' ∧ offC V V' c ∧ (∀ b k, b ≠ 74 ∧ b ≠ 75 → V' b k = V b k) ∧ laid V' c (fun t => V 69 t) (fun t => V 70 t) 3 := by
  intro k
  induction k with
  | zero =>
    intro t n V s h ht hn hl
    obtain ⟨n, rfl⟩ : ∃ m, n = m + 1 := ⟨n - 1, by omega⟩
    obtain rfl : t = 3 := by omega
    exact ⟨s, V, rfl, h, FM.rf s, eqW.rf V, fun _ _ _ _ => rfl, fun _ _ _ => rfl, hl⟩
  | succ k ih =>
    intro t n V s h ht hn hl
    obtain ⟨n, rfl⟩ : ∃ m, n = m + 1 := ⟨n - 1, by omega⟩
    have ht3 : t < 3 := by omega
    have i3 : vp_in (nI t) 3 := vp_in_nI (by omega) (by decide)
    obtain ⟨s1, e1, h1, f1⟩ := m_lays h hc ht3 (V 69 t) (V 70 t)
    have e69 : ∀ b j, b ≠ 74 ∧ b ≠ 75 → vLay V c t (V 69 t) (V 70 t) b j = V b j := vLay_no V c t _ _
    have hl1 : laid (vLay V c t (V 69 t) (V 70 t)) c (fun u => vLay V c t (V 69 t) (V 70 t) 69 u) (fun u => vLay V c t (V 69 t) (V 70 t) 70 u) (t + 1) := by
      intro u hu
      simp only [e69 69 _ (by decide), e69 70 _ (by decide), e69 73 _ (by decide), e69 71 _ (by decide), e69 72 _ (by decide)]
      by_cases e : u = t
      · subst e; exact vLay_at V ht3 _ _
      · have h9 := vLay_ot V (c := c) ht3 (show u < 3 by omega) e (V 69 t) (V 70 t)
        have h8 := hl u (by omega)
        rw [h9.1, h9.2.1, h9.2.2.1, h9.2.2.2]
        exact h8
    obtain ⟨s2, V2, e2, h2, f2, w2, o2, n2, l2⟩ := ih (t + 1) n _ s1 h1 (by omega) (by omega) hl1
    refine ⟨s2, V2, ?_, h2, f1.trans f2, (vLay_eq V c t _ _).trans w2, fun b j hb hj => (o2 b j hb hj).trans (vLay_off V ht3 _ _ b j hb hj), fun b j hb => (n2 b j hb).trans (e69 b j hb), ?_⟩
    · show f_Mo_laysAll_b2 _ _ _ _ = _
      unfold f_Mo_laysAll_b2
      rw [if_neg (show ¬ (3 : Int32) ≤ nI t from nI_ge (b := 3) ht3 (by decide)), f_ck_of h.b, f_ck_of i3, f_ck_of i3, nI_clamp (by omega), h.ar 69 rfl, h.ar 70 rfl, f_bd_of e1, nI_1]
      exact e2
    · intro u hu
      have h9 := l2 u hu
      simp only [e69 69 _ (by decide), e69 70 _ (by decide)] at h9
      exact h9
theorem m_laysAll (h : RM V s) {c : Nat} (hc : c ≤ 6) : ∃ s' V', f_Mo_laysAll (nI c) s = some ((), s') ∧ RM V' s' ∧ FM s s' ∧ eqW V V' ∧ offC V V' c ∧ (∀ b k, b ≠ 74 ∧ b ≠ 75 → V' b k = V b k) ∧ laid V' c (fun t => V 69 t) (fun t => V 70 t) 3 := by
  unfold f_Mo_laysAll
  exact m_laysAll_h hc 3 0 zl_fl V s h (by decide) (zl_fl_lt (by decide)) (fun u hu => absurd hu (Nat.not_lt_zero _))
/-- the world as it is asked about as it is -/
def asIs (V V' : Vw) : Prop := eqW V V' ∧ V' 46 39 = 10 ∧ V' 46 50 = 0 ∧ laid V' 0 (fun t => V 69 t) (fun t => V 70 t) 3
theorem m_asItIs (h : RM V s) : ∃ s' V', f_Mo_asItIs s = some ((), s') ∧ RM V' s' ∧ FM s s' ∧ asIs V V' := by
  have h1 := h.tr (a := 46) (k := 39) rfl (by decide) 10
  have h2 := h1.tr (a := 46) (k := 50) rfl (by decide) 0
  obtain ⟨s', V', e3, h3, f3, w3, o3, n3, l3⟩ := m_laysAll h2 (c := 0) (by decide)
  refine ⟨s', V', ?_, h3, ((FM.uI s (a := 46) (k := 39) _ (by omega)).trans (FM.uI _ (a := 46) (k := 50) _ (by omega))).trans f3, ((eqW.vU rfl _).trans (eqW.vU rfl _)).trans w3, ?_, ?_, ?_⟩
  · unfold f_Mo_asItIs
    exact rn_ck h.b (rn_bd e3 rfl)
  · rw [n3 46 39 (by decide), vU_ne _ _ (by decide), vU_at]
  · rw [n3 46 50 (by decide), vU_at]
  · intro u hu
    have h9 := l3 u hu
    simp only [vU_tr (V := V) (a := 46) (k := 39) rfl 10 69 _ rfl, vU_tr (V := V) (a := 46) (k := 39) rfl 10 70 _ rfl, vU_tr (V := vU V 46 39 10) (a := 46) (k := 50) rfl 0 69 _ rfl, vU_tr (V := vU V 46 39 10) (a := 46) (k := 50) rfl 0 70 _ rfl] at h9
    exact h9
end
