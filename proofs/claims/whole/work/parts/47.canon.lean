/-! the worlds that are asked about, and what is reached in them -/
section
theorem ite10 {α : Type} {c : Prop} {i : Decidable c} {j : Decidable ((@ite Int32 c i 1 0) = 0)} {A B : α} : (@ite α ((@ite Int32 c i 1 0) = 0) j A B) = @ite α c i B A := by
  by_cases h : c
  · rw [if_neg (by rw [if_pos h]; decide), if_pos h]
  · rw [if_pos (by rw [if_neg h]), if_neg h]
def kA (V : Vw) (a : Nat) (o o6 : Nat → Int32) (k : Nat) : Int32 := if k < 3 then o k else if k < 6 then (if V 73 (k - 3) = 0 then o (k - 3) else V a (k - 3)) else if k < 9 then o6 (k - 6) else (if V 73 (k - 9) = 0 then o6 (k - 9) else V a (k - 9))
def kW (V : Vw) (tm ln md pe th su : Int32) (o n o6 n6 : Nat → Int32) : Vw := fun a k =>
  if trp a k = true then (if a = 74 then kA V 71 o o6 k else if a = 75 then kA V 72 n n6 k else if k = 38 then ln else if k = 39 then tm else if k = 50 then md else if k = 51 then pe else if k = 52 then th else su) else V a k
def askW (V : Vw) : Vw := kW V 10 0 0 0 0 0 (fun t => V 69 t) (fun t => V 70 t) (fun _ => 0) (fun _ => 0)
def plW (V : Vw) (x : Nat) : Vw := kW V 10 0 0 0 0 0 (fun t => owP V (sDig V x t)) (fun t => ndP V (sDig V x t)) (fun _ => 0) (fun _ => 0)
def updF (f : Nat → Int32) (t : Nat) (x : Int32) : Nat → Int32 := fun u => if u = t then x else f u
def dlW (V : Vw) (md : Int32) (pe th : Nat) (su ow : Int32) : Vw := kW V 10 0 md (nI pe) (nI th) su (fun t => V 69 t) (fun t => V 70 t) (updF (fun t => V 69 t) th ow) (updF (fun t => V 70 t) th 1)
def edW (V : Vw) (tm ln : Int32) (th p : Nat) : Vw := kW V tm ln 0 0 0 0 (updF (fun t => V 69 t) th (nI (2 ^ p))) (updF (fun t => V 70 t) th 1) (fun _ => 0) (fun _ => 0)
variable {V V' : Vw} {s : Sg}
section
variable {tm ln md pe th su : Int32} {o n o6 n6 : Nat → Int32}
theorem kW_no {a k : Nat} (h : trp a k = false) : kW V tm ln md pe th su o n o6 n6 a k = V a k := if_neg (by rw [h]; decide)
theorem kW_eq : eqW V (kW V tm ln md pe th su o n o6 n6) := fun _ _ h => kW_no h
theorem kA_0 {V : Vw} {a : Nat} {o o6 : Nat → Int32} {t : Nat} (ht : t < 3) : kA V a o o6 (0 + t) = o t := by
  unfold kA
  rw [if_pos (by omega), Nat.zero_add]
theorem kA_3 {V : Vw} {a : Nat} {o o6 : Nat → Int32} {t : Nat} (ht : t < 3) : kA V a o o6 (0 + 3 + t) = if V 73 t = 0 then o t else V a t := by
  unfold kA
  rw [if_neg (by omega), if_pos (by omega), show 0 + 3 + t - 3 = t by omega]
theorem kA_6 {V : Vw} {a : Nat} {o o6 : Nat → Int32} {t : Nat} (ht : t < 3) : kA V a o o6 (6 + t) = o6 t := by
  unfold kA
  rw [if_neg (by omega), if_neg (by omega), if_pos (by omega), show 6 + t - 6 = t by omega]
theorem kA_9 {V : Vw} {a : Nat} {o o6 : Nat → Int32} {t : Nat} (ht : t < 3) : kA V a o o6 (6 + 3 + t) = if V 73 t = 0 then o6 t else V a t := by
  unfold kA
  rw [if_neg (by omega), if_neg (by omega), if_neg (by omega), show 6 + 3 + t - 9 = t by omega]
theorem kW_la0 : laid (kW V tm ln md pe th su o n o6 n6) 0 o n 3 := by
  intro t ht
  rw [kW_no (a := 73) rfl, kW_no (a := 71) rfl, kW_no (a := 72) rfl]
  exact ⟨kA_0 ht, kA_0 ht, kA_3 ht, kA_3 ht⟩
theorem kW_la6 : laid (kW V tm ln md pe th su o n o6 n6) 6 o6 n6 3 := by
  intro t ht
  rw [kW_no (a := 73) rfl, kW_no (a := 71) rfl, kW_no (a := 72) rfl]
  exact ⟨kA_6 ht, kA_6 ht, kA_9 ht, kA_9 ht⟩
theorem kW_39 : kW V tm ln md pe th su o n o6 n6 46 39 = tm := rfl
theorem kW_38 : kW V tm ln md pe th su o n o6 n6 46 38 = ln := rfl
theorem kW_50 : kW V tm ln md pe th su o n o6 n6 46 50 = md := rfl
theorem kW_51 : kW V tm ln md pe th su o n o6 n6 46 51 = pe := rfl
theorem kW_52 : kW V tm ln md pe th su o n o6 n6 46 52 = th := rfl
theorem kW_53 : kW V tm ln md pe th su o n o6 n6 46 53 = su := rfl
theorem kW_cg (h : eqW V V') : kW V' tm ln md pe th su o n o6 n6 = kW V tm ln md pe th su o n o6 n6 := by
  funext a k
  unfold kW kA
  rw [h 73 _ rfl, h 73 _ rfl, h 71 _ rfl, h 71 _ rfl, h 72 _ rfl, h 72 _ rfl]
  by_cases c : trp a k = true
  · rw [if_pos c, if_pos c]
  · rw [if_neg c, if_neg c, h a k (by simpa using c)]
end
theorem WV_eqW (hW : WV V) (e : eqW V V') : WV V' := by
  unfold WV pN tN kN sN at hW ⊢
  simp only [e 46 10 rfl, e 46 11 rfl, e 46 12 rfl, e 46 45 rfl, e 46 46 rfl, e 46 47 rfl, fun p => e 49 p rfl, fun p => e 50 p rfl, fun p => e 51 p rfl, fun p => e 52 p rfl, fun p => e 69 p rfl, fun p => e 70 p rfl, fun p => e 71 p rfl, fun p => e 72 p rfl, fun p => e 73 p rfl]
  exact hW
theorem askW_cg (h : eqW V V') : askW V' = askW V := by
  have e1 : (fun t => V' 69 t) = (fun t => V 69 t) := funext fun t => h 69 t rfl
  have e2 : (fun t => V' 70 t) = (fun t => V 70 t) := funext fun t => h 70 t rfl
  unfold askW
  rw [kW_cg h, e1, e2]
theorem plW_cg (h : eqW V V') (x : Nat) : plW V' x = plW V x := by
  unfold plW owP ndP sDig
  rw [kW_cg h]
  simp only [eqW_pN h]
theorem dlW_cg (h : eqW V V') (md : Int32) (pe th : Nat) (su ow : Int32) : dlW V' md pe th su ow = dlW V md pe th su ow := by
  have e1 : (fun t => V' 69 t) = (fun t => V 69 t) := funext fun t => h 69 t rfl
  have e2 : (fun t => V' 70 t) = (fun t => V 70 t) := funext fun t => h 70 t rfl
  unfold dlW
  rw [kW_cg h, e1, e2]
theorem edW_cg (h : eqW V V') (tm ln : Int32) (th p : Nat) : edW V' tm ln th p = edW V tm ln th p := by
  have e1 : (fun t => V' 69 t) = (fun t => V 69 t) := funext fun t => h 69 t rfl
  have e2 : (fun t => V' 70 t) = (fun t => V 70 t) := funext fun t => h 70 t rfl
  unfold edW
  rw [kW_cg h, e1, e2]
theorem eqT_of {W X : Vw} (h1 : eqW V W) (h2 : eqW V X) (h3 : X 46 39 = W 46 39) (h4 : W 46 39 = 10 ∨ X 46 38 = W 46 38) : eqT W X := ⟨fun b j hb _ _ _ => (h2 b j hb).trans (h1 b j hb).symm, h3, h4⟩
theorem eqC_of {W X : Vw} {c m : Nat} {o n : Nat → Int32} (h1 : eqW V W) (h2 : eqW V X) (l1 : laid W c o n m) (l2 : laid X c o n m) (hm : tN V ≤ m) : eqC W X c ∧ eqC W X (c + 3) := by
  have e : ∀ t, X 73 t = W 73 t ∧ X 71 t = W 71 t ∧ X 72 t = W 72 t := fun t => ⟨(h2 73 t rfl).trans (h1 73 t rfl).symm, (h2 71 t rfl).trans (h1 71 t rfl).symm, (h2 72 t rfl).trans (h1 72 t rfl).symm⟩
  have ht : tN W = tN V := eqW_tN h1
  constructor
  · intro t hlt
    rw [(l1 t (by omega)).1, (l1 t (by omega)).2.1, (l2 t (by omega)).1, (l2 t (by omega)).2.1]
    exact ⟨rfl, rfl⟩
  · intro t hlt
    rw [(l1 t (by omega)).2.2.1, (l1 t (by omega)).2.2.2, (l2 t (by omega)).2.2.1, (l2 t (by omega)).2.2.2, (e t).1, (e t).2.1, (e t).2.2]
    exact ⟨rfl, rfl⟩
theorem laid_le {c m k : Nat} {o n : Nat → Int32} (l : laid V c o n m) (hk : k ≤ m) : laid V c o n k := fun t ht => l t (by omega)
theorem ask_eqQ (hW : WV V) (h : asIs V V') : eqQ (askW V) V' := by
  obtain ⟨he, h39, h50, hl⟩ := h
  have hc := eqC_of (W := askW V) kW_eq he kW_la0 hl hW.2.1.2
  exact ⟨eqT_of kW_eq he h39 (Or.inl kW_39), hc.1, hc.2, h50, Or.inl kW_50⟩
theorem pl_eqQ (hW : WV V) {x : Nat} (h : plainW V V' x) (h39 : V 46 39 = 10) : eqQ (plW V x) V' := by
  obtain ⟨he, h50, h39', hl⟩ := h
  have hc := eqC_of (W := plW V x) kW_eq he (laid_le kW_la0 hW.2.1.2) hl (Nat.le_refl _)
  exact ⟨eqT_of kW_eq he (h39'.trans h39) (Or.inl kW_39), hc.1, hc.2, h50, Or.inl kW_50⟩
theorem ask_MX (hW : WV V) : MX (askW V) := by
  obtain ⟨c0, c3⟩ := CX_laid (V' := askW V) hW (laid_le kW_la0 hW.2.1.2) kW_eq (fun t ht => own_lim hW t (by have := hW.2.1.2; omega))
  exact ⟨c0, c3, Or.inl kW_50⟩
/-- what is reached by turns in the world W -/
def gO (W : Vw) : Option Int32 := match sFar W 99 0 with
  | none => none
  | some t => some (sGood W t.1)
def rcd (o : Option Int32) (s : Sg) : Prop := (o = none → mI s 46 55 = 0 ∧ mI s 46 56 = 0) ∧ (∀ g, o = some g → mI s 46 55 = 1 ∧ mI s 46 56 = g)
theorem rcd_of {W : Vw} (e : eqQ W V') (r : reachd V' s) : rcd (gO W) s := by
  have e1 : sFar V' 99 0 = sFar W 99 0 := cg_sFar e _ _
  unfold reachd at r
  rw [e1] at r
  unfold gO rcd
  cases hf : sFar W 99 0 with
  | none => exact ⟨fun _ => r.1 hf, fun g hg => by cases hg⟩
  | some t =>
    have h9 := r.2 t hf
    rw [cg_sGood e.1] at h9
    exact ⟨(fun hg => by cases hg), fun g hg => by cases hg; exact ⟨h9.1, h9.2.1⟩⟩
theorem m_asQ (h : RM V s) : ∃ s' V', f_Mo_asItIs s = some ((), s') ∧ RM V' s' ∧ FM s s' ∧ eqW V V' ∧ V' 46 39 = 10 ∧ eqQ (askW V) V' ∧ MX V' := by
  obtain ⟨s1, V1, e1, h1, f1, a1⟩ := m_asItIs h
  exact ⟨s1, V1, e1, h1, f1, a1.1, a1.2.1, ask_eqQ h.w a1, asIs_MX h.w a1⟩
/-- .. after it was said whether there is a throw -/
theorem m_asT (h : RM V s) (t : Int32) : ∃ s' V', f_Mo_asItIs (uI s 46 0 t) = some ((), s') ∧ RM V' s' ∧ FO s s' ∧ mI s' 46 0 = t ∧ eqW V V' ∧ eqQ (askW V) V' ∧ MX V' := by
  obtain ⟨s1, V1, e1, h1, f1, a1, -, q1, m1⟩ := m_asQ (h.sc 46 0 t rfl)
  exact ⟨s1, V1, e1, h1, (FO.uI s (a := 46) (k := 0) t (by decide)).trans f1.1, f1.2.trans (mI_at _ _ _ _), a1, q1, m1⟩
theorem m_reachByQ (h : RM V s) (h39 : V 46 39 = 10) {x : Nat} (hx : x < 2 ^ 31) : ∃ s' V', f_Mo_reachBy (nI x) s = some ((), s') ∧ RM V' s' ∧ FM s s' ∧ eqW V V' ∧ V' 46 39 = 10 ∧ rcd (gO (plW V x)) s' := by
  obtain ⟨s1, V1, e1, h1, f1, a1, r1⟩ := m_reachBy h hx
  exact ⟨s1, V1, e1, h1, f1, a1.1, a1.2.2.1.trans h39, rcd_of (pl_eqQ h.w a1 h39) r1⟩
theorem m_reachAsQ (h : RM V s) : ∃ s' V', f_Mo_reachAsItIs s = some ((), s') ∧ RM V' s' ∧ FM s s' ∧ eqW V V' ∧ V' 46 39 = 10 ∧ eqQ (askW V) V' ∧ MX V' ∧ rcd (gO (askW V)) s' := by
  obtain ⟨s1, V1, e1, h1, f1, a1, r1⟩ := m_reachAsItIs h
  have q := ask_eqQ h.w a1
  exact ⟨s1, V1, e1, h1, f1, a1.1, a1.2.1, q, asIs_MX h.w a1, rcd_of q r1⟩
/-- what a question to the model comes to: the answer, and whether it throws -/
def QM {α : Type} (V : Vw) (s : Sg) (f : Option (α × Sg)) (a : α) (t : Int32) : Prop := ∃ s' V', f = some (a, s') ∧ RM V' s' ∧ FO s s' ∧ eqW V V' ∧ mI s' 46 0 = t
theorem QM.mk {α : Type} {V V' : Vw} {s s' : Sg} {f : Option (α × Sg)} {a : α} {t : Int32} (e : f = some (a, s')) (h : RM V' s') (k : FO s s') (w : eqW V V') (ht : mI s' 46 0 = t) : QM V s f a t := ⟨s', V', e, h, k, w, ht⟩
end
