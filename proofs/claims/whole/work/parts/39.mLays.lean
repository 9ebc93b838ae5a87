/-! places of the world that a question sets: the model -/
section
def trp (a k : Nat) : Bool := (a == 46 && (k == 38 || k == 39 || k == 50 || k == 51 || k == 52 || k == 53)) || a == 74 || a == 75
variable {V : Vw} {s : Sg}
theorem vU_tr {a k : Nat} (ht : trp a k = true) (x : Int32) (b j : Nat) (hb : trp b j = false) : vU V a k x b j = V b j := vU_ne _ _ fun he => by rw [he.1, he.2, ht] at hb; cases hb
theorem WV.tr (h : WV V) {a k : Nat} (ht : trp a k = true) (x : Int32) : WV (vU V a k x) := by
  have e := fun b j hb => vU_tr (V := V) ht x b j hb
  unfold WV pN tN kN sN at h ⊢
  simp only [e 46 10 rfl, e 46 11 rfl, e 46 12 rfl, e 46 45 rfl, e 46 46 rfl, e 46 47 rfl, fun p => e 49 p rfl, fun p => e 50 p rfl, fun p => e 51 p rfl, fun p => e 52 p rfl, fun p => e 69 p rfl, fun p => e 70 p rfl, fun p => e 71 p rfl, fun p => e 72 p rfl, fun p => e 73 p rfl]
  exact h
theorem RM.tr (h : RM V s) {a k : Nat} (ht : trp a k = true) (h53 : ¬ (46 = a ∧ 53 = k)) (x : Int32) : RM (vU V a k x) (uI s a k x) := h.lw a k x (h.w.tr ht x) h53
theorem RM.ms (h : RM V s) (x : Int32) : RM (vU V 46 53 x) (uL s 46 53 (240 * x.toInt64)) := by
  refine ⟨h.1, h.2.1, h.w.tr rfl x, fun b j hb => ?_, ?_⟩
  · by_cases e : b = 46 ∧ j = 53
    · rw [e.1, e.2] at hb; exact absurd hb (by decide)
    · rw [vU_ne _ _ e]; exact h.e b j hb
  · rw [vU_at]
    show zl_up s.2.1 46 53 (240 * x.toInt64) 46 53 = _
    exact zl_up_at _ _ _ _
def vLay (V : Vw) (c t : Nat) (ow nd : Int32) : Vw := vU (vU (vU (vU V 74 (c + t) ow) 75 (c + t) nd) 74 (c + 3 + t) (if V 73 t = 0 then ow else V 71 t)) 75 (c + 3 + t) (if V 73 t = 0 then nd else V 72 t)
theorem m_lays (h : RM V s) {c t : Nat} (hc : c ≤ 6) (ht : t < 3) (ow nd : Int32) : ∃ s', f_Mo_lays (nI c) (nI t) ow nd s = some ((), s') ∧ RM (vLay V c t ow nd) s' ∧ FM s s' := by
  have i12 : vp_in (nI (c + t)) 12 := vp_in_nI (by omega) (by decide)
  have i12b : vp_in (nI (c + 3 + t)) 12 := vp_in_nI (by omega) (by decide)
  have i3 : vp_in (nI t) 3 := vp_in_nI (by omega) (by decide)
  have h1 := h.tr (a := 74) (k := c + t) rfl (fun e9 => absurd e9.1 (by decide)) ow
  have f1 := FM.uI s (a := 74) (k := c + t) ow (by omega)
  have h2 := h1.tr (a := 75) (k := c + t) rfl (fun e9 => absurd e9.1 (by decide)) nd
  have f2 := f1.trans (FM.uI _ (a := 75) (k := c + t) nd (by omega))
  have r73 : mI (uI (uI s 74 (c + t) ow) 75 (c + t) nd) 73 t = V 73 t := (h2.ar 73 rfl).trans ((vU_tr rfl _ _ _ rfl).trans (vU_tr rfl _ _ _ rfl))
  have r71 : mI (uI (uI s 74 (c + t) ow) 75 (c + t) nd) 71 t = V 71 t := (h2.ar 71 rfl).trans ((vU_tr rfl _ _ _ rfl).trans (vU_tr rfl _ _ _ rfl))
  have e3 : nI c + 3 + nI t = nI (c + 3 + t) := by rw [show (3 : Int32) = nI 3 from rfl, nI_add, nI_add]
  have hb : ∀ x : Int32, ∃ s', f_Mo_lays_b47 (nI c) (nI t) nd (nI (c + 3 + t)) x (uI (uI s 74 (c + t) ow) 75 (c + t) nd) = some ((), s') ∧ RM (vU (vU (vU (vU V 74 (c + t) ow) 75 (c + t) nd) 74 (c + 3 + t) x) 75 (c + 3 + t) (if V 73 t = 0 then nd else V 72 t)) s' ∧ FM s s' := by
    intro x
    have h3 := h2.tr (a := 74) (k := c + 3 + t) rfl (fun e9 => absurd e9.1 (by decide)) x
    have f3 := f2.trans (FM.uI _ (a := 74) (k := c + 3 + t) x (by omega))
    have q73 : mI (uI (uI (uI s 74 (c + t) ow) 75 (c + t) nd) 74 (c + 3 + t) x) 73 t = V 73 t := (h3.ar 73 rfl).trans ((vU_tr rfl _ _ _ rfl).trans ((vU_tr rfl _ _ _ rfl).trans (vU_tr rfl _ _ _ rfl)))
    have q72 : mI (uI (uI (uI s 74 (c + t) ow) 75 (c + t) nd) 74 (c + 3 + t) x) 72 t = V 72 t := (h3.ar 72 rfl).trans ((vU_tr rfl _ _ _ rfl).trans ((vU_tr rfl _ _ _ rfl).trans (vU_tr rfl _ _ _ rfl)))
    have h4 := fun y => h3.tr (a := 75) (k := c + 3 + t) rfl (fun e9 => absurd e9.1 (by decide)) y
    have f4 := fun y => f3.trans (FM.uI _ (a := 75) (k := c + 3 + t) y (by omega))
    have h77 : ∀ y : Int32, f_Mo_lays_b77 (nI (c + 3 + t)) y (uI (uI (uI s 74 (c + t) ow) 75 (c + t) nd) 74 (c + 3 + t) x) = some ((), uI (uI (uI (uI s 74 (c + t) ow) 75 (c + t) nd) 74 (c + 3 + t) x) 75 (c + 3 + t) y) := by
      intro y
      unfold f_Mo_lays_b77
      refine rn_ck h3.b (rn_ck i12b ?_)
      rw [nI_clamp (by omega)]
    unfold f_Mo_lays_b47
    rw [f_ck_of h2.b, f_ck_of i12b, nI_clamp (by omega), f_ck_of i3, nI_clamp (by omega), e3]
    simp only [q73, q72, f_ck_of i3, h77]
    by_cases c1 : V 73 t = 0
    · rw [if_pos c1, if_pos c1]; exact ⟨_, rfl, h4 _, f4 _⟩
    · rw [if_neg c1, if_neg c1]; exact ⟨_, rfl, h4 _, f4 _⟩
  unfold f_Mo_lays vLay
  rw [f_ck_of h.b, nI_add, f_ck_of i12, nI_clamp (by omega), f_ck_of i12, f_ck_of i3, nI_clamp (by omega), e3]
  simp only [r73, r71, f_ck_of i3]
  by_cases c1 : V 73 t = 0
  · simp only [if_pos c1]
    have := hb ow
    simp only [if_pos c1] at this
    exact this
  · simp only [if_neg c1]
    have := hb (V 71 t)
    simp only [if_neg c1] at this
    exact this
end
