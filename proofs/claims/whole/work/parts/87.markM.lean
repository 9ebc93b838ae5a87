/-! mark: the model -/
section
variable {s s0 : Sg}
/-- the places of a telling, in the order in which a mark keeps them -/
def kp (i : Nat) : Nat × Nat :=
  if i < 3 then (46, 10 + i) else if i < 6 then (46, 42 + i) else if i < 10 then (49, i - 6) else if i < 26 then (50, i - 10) else if i < 34 then (51, i - 26) else if i < 42 then (52, i - 34) else if i < 57 then (69 + (i - 42) / 3, (i - 42) % 3) else (68, i - 57)
/-- .. and where a mark keeps them -/
def km (m i : Nat) : Nat × Nat := if i < 57 then (77, 140 * m + i) else (79, 2048 * m + (i - 57))
theorem kp_i {i i' : Nat} (hi : i < 2105) (hi' : i' < 2105) (h : kp i = kp i') : i = i' := by
  have h1 := congrArg Prod.fst h
  have h2 := congrArg Prod.snd h
  unfold kp at h1 h2
  repeat' split at h1
  all_goals simp only [*, if_true, if_false] at h1 h2
  all_goals omega
theorem km_i {m i i' : Nat} (h : km m i = km m i') : i = i' := by
  have h1 := congrArg Prod.fst h
  have h2 := congrArg Prod.snd h
  unfold km at h1 h2
  repeat' split at h1
  all_goals simp only [*, if_true, if_false] at h1 h2
  all_goals omega
theorem kp_77 {i : Nat} (hi : i < 2105) : (kp i).1 < 74 := by
  unfold kp
  repeat' split
  all_goals simp only
  all_goals omega
theorem km_77 (m i : Nat) : 77 ≤ (km m i).1 := by
  unfold km
  split
  all_goals simp only
  all_goals omega
def tg (x2 : Int32) (m i : Nat) : Nat × Nat := if x2 = 0 then km m i else kp i
def sr (x2 : Int32) (m i : Nat) : Nat × Nat := if x2 = 0 then kp i else km m i
/-- those of D are moved -/
def MV (x2 : Int32) (m : Nat) (s0 s : Sg) (D : Nat → Prop) : Prop := (mN s = mN s0 ∧ s.2.2.1 = s0.2.2.1) ∧ (∀ a k, a ≠ 78 → a ≠ 48 → mL s a k = mL s0 a k) ∧ (∀ a k, (∀ i, i < 2105 → (a, k) ≠ tg x2 m i) → mI s a k = mI s0 a k) ∧
  (∀ i, i < 2105 → (D i → mI s (tg x2 m i).1 (tg x2 m i).2 = mI s0 (sr x2 m i).1 (sr x2 m i).2) ∧ (¬ D i → mI s (tg x2 m i).1 (tg x2 m i).2 = mI s0 (tg x2 m i).1 (tg x2 m i).2))
theorem MV.b {x2 : Int32} {m : Nat} {D : Nat → Prop} (h : MV x2 m s0 s D) (hb : zl_B s0) : zl_B s := ⟨by rw [h.1.1]; exact hb.1, by rw [h.1.2]; exact hb.2⟩
theorem MV.rf (x2 : Int32) (m : Nat) (s : Sg) : MV x2 m s s (fun _ => False) := ⟨⟨rfl, rfl⟩, fun _ _ _ _ => rfl, fun _ _ _ => rfl, fun _ _ => ⟨fun h => h.elim, fun _ => rfl⟩⟩
theorem MV.all {x2 : Int32} {m : Nat} {D : Nat → Prop} (h : MV x2 m s0 s D) (hD : ∀ i, i < 2105 → D i) : MV x2 m s0 s (fun _ => True) := ⟨h.1, h.2.1, h.2.2.1, fun i hi => ⟨fun _ => (h.2.2.2 i hi).1 (hD i hi), fun g => absurd trivial g⟩⟩
theorem mv_uL {x2 : Int32} {m : Nat} {D : Nat → Prop} (h : MV x2 m s0 s D) {a k : Nat} (x : Int64) (ha : a = 78 ∨ a = 48) : MV x2 m s0 (uL s a k x) D := ⟨h.1, fun b j h1 h2 => (mL_ne _ _ (fun e => by omega)).trans (h.2.1 b j h1 h2), h.2.2.1, h.2.2.2⟩
theorem tg_i {x2 : Int32} {m i i' : Nat} (hi : i < 2105) (hi' : i' < 2105) (h : tg x2 m i = tg x2 m i') : i = i' := by
  unfold tg at h
  by_cases c : x2 = 0
  · rw [if_pos c, if_pos c] at h
    exact km_i h
  · rw [if_neg c, if_neg c] at h
    exact kp_i hi hi' h
theorem sr_tg {x2 : Int32} {m i i' : Nat} (hi : i < 2105) (hi' : i' < 2105) : sr x2 m i ≠ tg x2 m i' := by
  intro h
  unfold sr tg at h
  by_cases c : x2 = 0
  · rw [if_pos c, if_pos c] at h
    have h1 := congrArg Prod.fst h
    have := kp_77 hi
    have := km_77 m i'
    omega
  · rw [if_neg c, if_neg c] at h
    have h1 := congrArg Prod.fst h
    have := kp_77 hi'
    have := km_77 m i
    omega
theorem mv_sr {x2 : Int32} {m : Nat} {D : Nat → Prop} (h : MV x2 m s0 s D) {i : Nat} (hi : i < 2105) : mI s (sr x2 m i).1 (sr x2 m i).2 = mI s0 (sr x2 m i).1 (sr x2 m i).2 := h.2.2.1 _ _ (fun i' hi' => sr_tg hi hi')
/-- one place is moved -/
theorem MV.st {x2 : Int32} {m : Nat} {D : Nat → Prop} (h : MV x2 m s0 s D) {i : Nat} (hi : i < 2105) {s' : Sg} (hs : (mN s' = mN s ∧ s'.2.2.1 = s.2.2.1) ∧ (∀ a k, mL s' a k = mL s a k)) (hv : mI s' (tg x2 m i).1 (tg x2 m i).2 = mI s (sr x2 m i).1 (sr x2 m i).2) (hn : ∀ a k, (a, k) ≠ tg x2 m i → mI s' a k = mI s a k) : MV x2 m s0 s' (fun j => D j ∨ j = i) := by
  refine ⟨⟨hs.1.1.trans h.1.1, hs.1.2.trans h.1.2⟩, fun a k h1 h2 => (hs.2 a k).trans (h.2.1 a k h1 h2), fun a k ha => (hn a k (ha i hi)).trans (h.2.2.1 a k ha), fun j hj => ?_⟩
  by_cases e : j = i
  · subst e
    exact ⟨fun _ => hv.trans (mv_sr h hi), fun g => absurd (Or.inr rfl) g⟩
  · have := hn (tg x2 m j).1 (tg x2 m j).2 (fun q => e (tg_i hj hi q))
    exact ⟨fun g => this.trans ((h.2.2.2 j hj).1 (g.resolve_right e)), fun g => this.trans ((h.2.2.2 j hj).2 (fun g' => g (Or.inl g')))⟩
theorem m_keep {x2 : Int32} {m : Nat} {D : Nat → Prop} (hm : m < 4) (hb : zl_B s0) (h : MV x2 m s0 s D) {i a k : Nat} (hi : i < 57) (hk : kp i = (a, k)) {y v : Int32} (hy : y = nI (140 * m + i)) (hv : x2 = 0 → v = mI s a k) :
    ∃ s1, f_Mo_keeps y v x2 s = some (mI s0 (sr x2 m i).1 (sr x2 m i).2, s1) ∧ zl_B s1 ∧ MV x2 m s0 (uI s1 a k (mI s0 (sr x2 m i).1 (sr x2 m i).2)) (fun j => D j ∨ j = i) ∧ (∀ b j, b < 77 → mI s1 b j = mI s b j) := by
  have hi9 : i < 2105 := by omega
  have ha := kp_77 hi9
  rw [hk] at ha
  simp only at ha
  have hS := mv_sr h hi9
  have ek : km m i = (77, 140 * m + i) := by unfold km; rw [if_pos hi]
  subst hy
  unfold f_Mo_keeps
  by_cases c : x2 = 0
  · have et : tg x2 m i = (77, 140 * m + i) := by unfold tg; rw [if_pos c, ek]
    have es : sr x2 m i = (a, k) := by unfold sr; rw [if_pos c, hk]
    have e0 : mI s a k = mI s0 a k := by rw [es] at hS; exact hS
    rw [if_pos c, f_ck_of (h.b hb), f_ck_of (vp_in_nI (by omega) (by decide)), nI_clamp (by omega), es, hv c]
    simp only [e0]
    refine ⟨uI s 77 (140 * m + i) (mI s0 a k), rfl, h.b hb, ?_, fun b j hbj => mI_ne _ _ (by omega)⟩
    refine h.st hi9 ⟨⟨rfl, rfl⟩, fun _ _ => rfl⟩ ?_ (fun b j hbj => ?_)
    · rw [et, es]
      show mI (uI _ a k _) 77 (140 * m + i) = mI s a k
      rw [mI_ne _ _ (by omega), mI_at, e0]
    · rw [et] at hbj
      by_cases q : b = a ∧ j = k
      · rw [q.1, q.2, mI_at, e0]
      · rw [mI_ne _ _ q, mI_ne _ _ (fun g => hbj (by rw [g.1, g.2]))]
  · have et : tg x2 m i = (a, k) := by unfold tg; rw [if_neg c, hk]
    have es : sr x2 m i = (77, 140 * m + i) := by unfold sr; rw [if_neg c, ek]
    have e0 : mI s 77 (140 * m + i) = mI s0 77 (140 * m + i) := by rw [es] at hS; exact hS
    rw [if_neg c, f_ck_of (h.b hb), f_ck_of (vp_in_nI (by omega) (by decide)), nI_clamp (by omega), es]
    simp only [e0]
    refine ⟨s, rfl, h.b hb, ?_, fun _ _ _ => rfl⟩
    refine h.st hi9 ⟨⟨rfl, rfl⟩, fun _ _ => rfl⟩ ?_ (fun b j hbj => ?_)
    · rw [et, es]
      show mI (uI s a k _) a k = mI s 77 (140 * m + i)
      rw [mI_at, e0]
    · rw [et] at hbj
      exact mI_ne _ _ (fun g => hbj (by rw [g.1, g.2]))
theorem ox_ck {α : Type} {P : α → Sg → Prop} {c : Prop} {k : Option (α × Sg)} (h : c) (hk : okx P k) : okx P (f_ck c k) := by rw [f_ck_of h]; exact hk
theorem ox_bd {α β : Type} {P : α → Sg → Prop} {x : Option (β × Sg)} {r : β} {s1 : Sg} {f : β → Sg → Option (α × Sg)} (e : x = some (r, s1)) (h : okx P (f r s1)) : okx P (f_bd x f) := by rw [f_bd_of e]; exact h
/-- .. in the midst of a row of them -/
theorem m_k1 {x2 : Int32} {m : Nat} {D : Nat → Prop} {P : Unit → Sg → Prop} (hm : m < 4) (hb : zl_B s0) (h : MV x2 m s0 s D) {i a k : Nat} (hi : i < 57) (hk : kp i = (a, k)) {y : Int32} (hy : y = nI (140 * m + i)) {R : Int32 → Sg → Option (Unit × Sg)}
    (hR : ∀ r s1, MV x2 m s0 (uI s1 a k r) (fun j => D j ∨ j = i) → zl_B s1 → okx P (R r s1)) : okx P (f_bd (f_Mo_keeps y (mI s a k) x2 s) fun r s1 => f_ck (zl_B s1) (R r s1)) := by
  obtain ⟨s1, e1, b1, h1, -⟩ := m_keep hm hb h hi hk hy (fun _ => rfl)
  exact ox_bd e1 (ox_ck b1 (hR _ _ h1 b1))
end
