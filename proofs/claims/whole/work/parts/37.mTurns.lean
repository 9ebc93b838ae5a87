/-! by turns: the model -/
section
/-- what the model leaves alone outside of its own -/
def FO (s s' : Sg) : Prop := mN s' = mN s ∧ s'.2.2.1 = s.2.2.1 ∧ ∀ a k, (a < 46 ∨ 80 ≤ a) → mI s' a k = mI s a k ∧ mL s' a k = mL s a k
theorem FO.rf (s : Sg) : FO s s := ⟨rfl, rfl, fun _ _ _ => ⟨rfl, rfl⟩⟩
theorem FO.trans {s0 s1 s2 : Sg} (h : FO s0 s1) (k : FO s1 s2) : FO s0 s2 := ⟨k.1.trans h.1, k.2.1.trans h.2.1, fun a j ha => ⟨((k.2.2 a j ha).1).trans (h.2.2 a j ha).1, ((k.2.2 a j ha).2).trans (h.2.2 a j ha).2⟩⟩
theorem FO.uI (s : Sg) {a k : Nat} (x : Int32) (ha : 46 ≤ a ∧ a < 80) : FO s (uI s a k x) := ⟨rfl, rfl, fun b j hb => ⟨zl_up_ne _ _ (fun e => by omega), rfl⟩⟩
theorem FO.uL (s : Sg) {a k : Nat} (x : Int64) (ha : 46 ≤ a ∧ a < 80) : FO s (uL s a k x) := ⟨rfl, rfl, fun b j hb => ⟨rfl, zl_up_ne _ _ (fun e => by omega)⟩⟩
/-- .. and what it has said of a throw -/
def FM (s s' : Sg) : Prop := FO s s' ∧ mI s' 46 0 = mI s 46 0
theorem FM.rf (s : Sg) : FM s s := ⟨FO.rf s, rfl⟩
theorem FM.trans {s0 s1 s2 : Sg} (h : FM s0 s1) (k : FM s1 s2) : FM s0 s2 := ⟨h.1.trans k.1, k.2.trans h.2⟩
theorem FM.uI (s : Sg) {a k : Nat} (x : Int32) (ha : (46 ≤ a ∧ a < 80) ∧ ¬ (46 = a ∧ 0 = k)) : FM s (uI s a k x) := ⟨FO.uI s x ha.1, zl_up_ne _ _ ha.2⟩
theorem FM.uL (s : Sg) {a k : Nat} (x : Int64) (ha : 46 ≤ a ∧ a < 80) : FM s (uL s a k x) := ⟨FO.uL s x ha, rfl⟩
theorem mI_at (s : Sg) (a k : Nat) (x : Int32) : mI (uI s a k x) a k = x := zl_up_at _ _ _ _
theorem mI_ne (s : Sg) {a k b j : Nat} (x : Int32) (h : ¬ (b = a ∧ j = k)) : mI (uI s a k x) b j = mI s b j := zl_up_ne _ _ h
def b2i (c : Bool) : Int32 := if c = true then 1 else 0
def sTrn (V : Vw) (kp : Nat) : Nat → Nat → Nat → Bool → Nat × Bool
  | 0, _, q, ch => (q, ch)
  | k + 1, p, q, ch => if p = kp ∨ sStays V p q = true then sTrn V kp k (p + 1) q ch else sTrn V kp k (p + 1) (sTk q p (sWld V p q)) true
def sOut (V : Vw) (kp : Nat) : Nat → Nat → Nat → Option (Nat × Nat)
  | 0, _, _ => none
  | k + 1, r, q => if (sTrn V kp (pN V) 0 q false).2 = true then sOut V kp k (r + 1) (sTrn V kp (pN V) 0 q false).1 else some ((sTrn V kp (pN V) 0 q false).1, r)
def oI (o : Option (Nat × Nat)) : Int32 := match o with
  | none => -1
  | some t => nI t.1
variable {V : Vw} {s : Sg}
theorem sTrn_lt (h : RM V s) (kp : Nat) : ∀ (k p q : Nat) (ch : Bool), p + k = pN V → q < 256 → (sTrn V kp k p q ch).1 < 256 := by
  have hp4 := h.p4
  intro k
  induction k with
  | zero => intro p q ch _ hq; exact hq
  | succ k ih =>
    intro p q ch hp hq
    show (if _ then _ else _ : Nat × Bool).1 < 256
    have h3 := sN_le h (show p < pN V by omega)
    have hw := sWld_le V p q
    split
    · exact ih (p + 1) q ch (by omega) hq
    · exact ih (p + 1) _ true (by omega) (tk_lt hq (by omega) (by omega))
theorem m_turns_in (h : RM V s) (hM : MX V) {x1 : Int32} {kp : Nat} (hk : ∀ p, p < pN V → (nI p = x1 ↔ p = kp)) (R : Int32 → Int32 → Sg → Option (Int32 × Sg)) : ∀ (k p q n : Nat) (ch : Bool), p + k = pN V → q < 256 → k < n →
    f_Mo_turnsOut_h34 R n x1 (nI q) (b2i ch) (nI p) s = f_Mo_turnsOut_b86 R x1 (nI (sTrn V kp k p q ch).1) (b2i (sTrn V kp k p q ch).2) s := by
  have hp4 := h.p4
  intro k
  induction k with
  | zero =>
    intro p q n ch hp hq hn
    obtain ⟨n, rfl⟩ : ∃ m, n = m + 1 := ⟨n - 1, by omega⟩
    show f_Mo_turnsOut_b34 _ _ _ _ _ _ _ = _
    unfold f_Mo_turnsOut_b34
    refine (f_ck_of h.b).trans (if_pos ?_)
    rw [h.pe]; exact nI_le (by omega) (by omega)
  | succ k ih =>
    intro p q n ch hp hq hn
    obtain ⟨n, rfl⟩ : ∃ m, n = m + 1 := ⟨n - 1, by omega⟩
    have h3 := sN_le h (show p < pN V by omega)
    have hw := sWld_le V p q
    show f_Mo_turnsOut_b34 _ _ _ _ _ _ _ = f_Mo_turnsOut_b86 R x1 (nI (if p = kp ∨ sStays V p q = true then _ else _ : Nat × Bool).1) (b2i (if p = kp ∨ sStays V p q = true then _ else _ : Nat × Bool).2) s
    unfold f_Mo_turnsOut_b34
    refine (f_ck_of h.b).trans ((if_neg ?_).trans ?_)
    · rw [h.pe]; exact nI_ge (by omega) (by omega)
    unfold f_Mo_turnsOut_b80
    simp only [nI_1]
    by_cases c1 : p = kp
    · rw [if_pos ((hk p (by omega)).mpr c1), if_pos (Or.inl c1)]
      exact ih (p + 1) q n ch (by omega) hq (by omega)
    · rw [if_neg (fun h9 => c1 ((hk p (by omega)).mp h9)), f_bd_of (m_stays h hM (by omega) hq)]
      by_cases c2 : sStays V p q = true
      · rw [if_pos c2, if_neg (by decide), if_pos (Or.inr c2)]
        exact ih (p + 1) q n ch (by omega) hq (by omega)
      · rw [if_neg c2, if_pos rfl, if_neg (fun h9 => h9.elim c1 c2), f_ck_of h.b, f_bd_of (m_wouldOf h hM (by omega) hq), f_ck_of h.b, f_bd_of (m_takes hq (by omega) (by omega))]
        exact ih (p + 1) _ n true (by omega) (tk_lt hq (by omega) (by omega)) (by omega)
theorem m_turns_out (hM : MX V) {x1 : Int32} {kp : Nat} (hk : ∀ p, p < pN V → (nI p = x1 ↔ p = kp)) : ∀ (k r q n : Nat) (s : Sg), RM V s → mI s 46 54 = nI r → r + k = 31 → q < 256 → k < n →
    ∃ s', f_Mo_turnsOut_h19 n x1 (nI q) s = some (oI (sOut V kp k r q), s') ∧ RM V s' ∧ FM s s' ∧ (∀ t, sOut V kp k r q = some t → mI s' 46 54 = nI t.2 ∧ t.1 < 256) := by
  intro k
  induction k with
  | zero =>
    intro r q n s h hr hrk hq hn
    obtain ⟨n, rfl⟩ : ∃ m, n = m + 1 := ⟨n - 1, by omega⟩
    refine ⟨s, ?_, h, FM.rf s, fun t ht => by cases ht⟩
    show f_Mo_turnsOut_b19 _ _ _ _ = _
    unfold f_Mo_turnsOut_b19
    refine rn_ck h.b (rn_T ?_ rfl)
    rw [hr]; exact nI_lt (show 30 < r by omega) (by omega)
  | succ k ih =>
    intro r q n s h hr hrk hq hn
    obtain ⟨n, rfl⟩ : ∃ m, n = m + 1 := ⟨n - 1, by omega⟩
    have hp4 := h.p4
    have e0 : f_Mo_turnsOut_h19 (n + 1) x1 (nI q) s = f_Mo_turnsOut_b86 (f_Mo_turnsOut_h19 n) x1 (nI (sTrn V kp (pN V) 0 q false).1) (b2i (sTrn V kp (pN V) 0 q false).2) s := by
      show f_Mo_turnsOut_b19 _ _ _ _ = _
      unfold f_Mo_turnsOut_b19
      refine (f_ck_of h.b).trans ((if_neg ?_).trans ?_)
      · rw [hr]; exact nI_nlt (show r ≤ 30 by omega) (by decide)
      exact m_turns_in h hM hk (f_Mo_turnsOut_h19 n) (pN V) 0 q zl_fl false (by omega) hq (zl_fl_lt (by omega))
    have hlt := sTrn_lt h kp (pN V) 0 q false (by omega) hq
    rw [e0]
    unfold f_Mo_turnsOut_b86
    show ∃ s', _ = some (oI (if (sTrn V kp (pN V) 0 q false).2 = true then _ else _), s') ∧ _ ∧ _ ∧ ∀ t, (if (sTrn V kp (pN V) 0 q false).2 = true then _ else _) = some t → _
    by_cases c : (sTrn V kp (pN V) 0 q false).2 = true
    · rw [c, if_neg (by decide), f_ck_of h.b]
      have h2 : RM V (uI s 46 54 (mI s 46 54 + 1)) := h.sc 46 54 _ rfl
      have hr2 : mI (uI s 46 54 (mI s 46 54 + 1)) 46 54 = nI (r + 1) := by
        rw [mI_at, hr, nI_1]
      obtain ⟨s', e1, e2, e3, e4⟩ := ih (r + 1) _ n _ h2 hr2 (by omega) hlt (by omega)
      simp only [if_true]
      exact ⟨s', e1, e2, (FM.uI s _ (by omega)).trans e3, e4⟩
    · have c' : (sTrn V kp (pN V) 0 q false).2 = false := by simpa using c
      rw [c', if_pos (show b2i false = 0 from rfl)]
      refine ⟨s, rfl, h, FM.rf s, fun t ht => ?_⟩
      cases ht
      exact ⟨hr, hlt⟩
end
