/-! a plain owning by its number: the model -/
section
def owP (V : Vw) (d : Nat) : Int32 := if d < pN V then nI (2 ^ d) else if d = pN V then nI (2 ^ pN V - 1) else 0
def ndP (V : Vw) (d : Nat) : Int32 := if d = pN V then nI (pN V) else 1
theorem m_reachBy_h {x : Nat} (hx : x < 2 ^ 31) (W : Vw) : ∀ (k t n : Nat) (V : Vw) (s : Sg), RM V s → V 46 50 = 0 → eqW W V → t + k = tN V → k < n → laid V 0 (fun t => owP W (sDig W x t)) (fun t => ndP W (sDig W x t)) t →
    ∃ s' V', f_Mo_reachBy_h7 n (nI x) (nI t) s = f_Mo_reachBy_b88 s' ∧ RM V' s' ∧ FM s s' ∧ eqW V V' ∧ V' 46 50 = 0 ∧ V' 46 39 = V 46 39 ∧ laid V' 0 (fun t => owP W (sDig W x t)) (fun t => ndP W (sDig W x t)) (tN V) := by
  intro k
  induction k with
  | zero =>
    intro t n V s h h50 he ht hn hl
    obtain ⟨n, rfl⟩ : ∃ m, n = m + 1 := ⟨n - 1, by omega⟩
    obtain rfl : t = tN V := by omega
    refine ⟨s, V, ?_, h, FM.rf s, eqW.rf V, h50, rfl, hl⟩
    show f_Mo_reachBy_b7 _ _ _ _ = _
    unfold f_Mo_reachBy_b7
    rw [f_ck_of h.b, h.th, if_pos (nI_le (by omega) (by have := h.t3; omega))]
  | succ k ih =>
    intro t n V s h h50 he ht hn hl
    obtain ⟨n, rfl⟩ : ∃ m, n = m + 1 := ⟨n - 1, by omega⟩
    have hp4 := h.p4
    have ht3 := h.t3
    have ht2 : t < 3 := by omega
    have hd : sDig V x t = sDig W x t := by unfold sDig; rw [eqW_pN he]
    have hpn := eqW_pN he
    have hlt : sDig W x t < pN V + 2 := by rw [← hd]; exact sDigL_lt (by omega) _ _
    obtain ⟨s1, e1, h1, f1⟩ := m_lays h (c := 0) (by decide) ht2 (owP W (sDig W x t)) (ndP W (sDig W x t))
    have hl1 : laid (vLay V 0 t (owP W (sDig W x t)) (ndP W (sDig W x t))) 0 (fun t => owP W (sDig W x t)) (fun t => ndP W (sDig W x t)) (t + 1) := by
      intro u hu
      simp only [vLay_no V 0 t _ _ 73 _ (by decide), vLay_no V 0 t _ _ 71 _ (by decide), vLay_no V 0 t _ _ 72 _ (by decide)]
      by_cases e : u = t
      · subst e; exact vLay_at V ht2 _ _
      · have h9 := vLay_ot V (c := 0) ht2 (show u < 3 by omega) e (owP W (sDig W x t)) (ndP W (sDig W x t))
        have h8 := hl u (by omega)
        rw [h9.1, h9.2.1, h9.2.2.1, h9.2.2.2]
        exact h8
    have hw1 := vLay_eq V 0 t (owP W (sDig W x t)) (ndP W (sDig W x t))
    obtain ⟨s2, V2, e2, h2, f2, w2, z2, y2, l2⟩ := ih (t + 1) n _ s1 h1 (by rw [vLay_no _ _ _ _ _ _ _ (by decide)]; exact h50) (he.trans hw1) (by rw [eqW_tN hw1]; omega) (by omega) hl1
    refine ⟨s2, V2, ?_, h2, f1.trans f2, hw1.trans w2, z2, y2.trans (vLay_no _ _ _ _ _ _ _ (by decide)), by rw [← eqW_tN hw1]; exact l2⟩
    rw [← e2]
    show f_Mo_reachBy_b7 _ _ _ _ = _
    unfold f_Mo_reachBy_b7
    rw [f_ck_of h.b, h.th, if_neg (nI_ge (by omega) (by omega)), f_bd_of (m_digit h hx (by omega)), f_ck_of h.b, hd, h.pe]
    unfold f_Mo_reachBy_b63 f_Mo_reachBy_b79
    simp only [f_ck_of h.b, h.pe, nI_1]
    have e0 : (0 : Int32) = nI 0 := rfl
    have e5 : ((1 : Int32) <<< (nI (pN V) &&& 31)) - 1 = nI (2 ^ pN V - 1) := by rw [← h.pe]; exact m_all h
    unfold owP ndP at e1
    rw [← hpn] at e1
    by_cases c1 : sDig W x t < pN V
    · rw [if_neg (nI_ge c1 (by omega)), if_neg (nI_neq (by omega) (by omega) (by omega)), shl_p _ (by omega)]
      rw [if_pos c1, if_neg (by omega)] at e1
      rw [show f_Mo_lays 0 (nI t) (nI (2 ^ sDig W x t)) 1 s = some ((), s1) from e1]
      rfl
    · rw [if_pos (nI_le (by omega) (by omega))]
      rw [if_neg c1] at e1
      by_cases c2 : sDig W x t = pN V
      · rw [c2, if_pos rfl, if_pos rfl, e5]
        rw [if_pos c2, if_pos c2] at e1
        rw [show f_Mo_lays 0 (nI t) (nI (2 ^ pN V - 1)) (nI (pN V)) s = some ((), s1) from e1]
        rfl
      · rw [if_neg (nI_neq (by omega) (by omega) c2), if_neg (nI_neq (by omega) (by omega) c2)]
        rw [if_neg c2, if_neg c2] at e1
        rw [show f_Mo_lays 0 (nI t) 0 1 s = some ((), s1) from e1]
        rfl
theorem plain_lim {V : Vw} (hW : WV V) (d : Nat) : is_n (owP V d) 15 ∧ is_n (ndP V d) 4 := by
  have hp4 := hW.1.2
  have h16 := p2_le hp4
  unfold owP ndP
  by_cases c1 : d < pN V
  · rw [if_pos c1, if_neg (by omega)]
    have h4 : d = 0 ∨ d = 1 ∨ d = 2 ∨ d = 3 := by omega
    exact ⟨⟨2 ^ d, by rcases h4 with rfl | rfl | rfl | rfl <;> decide, rfl⟩, ⟨1, by decide, rfl⟩⟩
  · rw [if_neg c1]
    by_cases c2 : d = pN V
    · rw [if_pos c2, if_pos c2]; exact ⟨⟨_, by omega, rfl⟩, ⟨_, hp4, rfl⟩⟩
    · rw [if_neg c2, if_neg c2]; exact ⟨⟨0, by decide, rfl⟩, ⟨1, by decide, rfl⟩⟩
/-- the world in which the plain owning x is laid -/
def plainW (V V' : Vw) (x : Nat) : Prop := eqW V V' ∧ V' 46 50 = 0 ∧ V' 46 39 = V 46 39 ∧ laid V' 0 (fun t => owP V (sDig V x t)) (fun t => ndP V (sDig V x t)) (tN V)
theorem plainW_MX {V V' : Vw} (hW : WV V) {x : Nat} (h : plainW V V' x) : MX V' := by
  obtain ⟨he, h50, -, hl⟩ := h
  obtain ⟨c0, c3⟩ := CX_laid hW hl he (fun t _ => plain_lim hW _)
  exact ⟨c0, c3, Or.inl h50⟩
theorem m_reachBy {V : Vw} {s : Sg} (h : RM V s) {x : Nat} (hx : x < 2 ^ 31) : ∃ s' V', f_Mo_reachBy (nI x) s = some ((), s') ∧ RM V' s' ∧ FM s s' ∧ plainW V V' x ∧ reachd V' s' := by
  have h1 := h.tr (a := 46) (k := 50) rfl (by decide) 0
  have he : eqW V (vU V 46 50 0) := eqW.vU rfl _
  have ht3 := h.t3
  obtain ⟨s2, V2, e2, h2, f2, w2, z2, y2, l2⟩ := m_reachBy_h hx V (tN V) 0 zl_fl _ _ h1 (vU_at _ _ _ _) he (by rw [eqW_tN he]; omega) (zl_fl_lt (by omega)) (fun u hu => absurd hu (Nat.not_lt_zero _))
  have hP : plainW V V2 x := ⟨he.trans w2, z2, y2.trans (vU_ne _ _ (by decide)), by rw [← eqW_tN he]; exact l2⟩
  obtain ⟨s3, e3, h3, f3, r3⟩ := m_reach h2 (plainW_MX h.w hP)
  refine ⟨s3, V2, ?_, h3, ((FM.uI s (a := 46) (k := 50) _ (by omega)).trans f2).trans f3, hP, r3⟩
  unfold f_Mo_reachBy
  rw [f_ck_of h.b]
  refine Eq.trans e2 ?_
  unfold f_Mo_reachBy_b88
  rw [f_ck_of h2.b, f_bd_of e3]
end
