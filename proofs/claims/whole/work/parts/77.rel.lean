/-! what holds of the class and the model together -/
section
/-- what a class's call leaves alone -/
def GU (s s' : Sg) : Prop := (mN s' = mN s ∧ s'.2.2.1 = s.2.2.1) ∧ (∀ a k, (a ≤ 4 ∨ (31 ≤ a ∧ a ≠ 45)) → mI s' a k = mI s a k) ∧ (∀ a k, 46 ≤ a → a ≠ 80 → mL s' a k = mL s a k)
theorem KQ.u {s s' : Sg} (h : KQ s s') : GU s s' := ⟨⟨h.1, h.2.1⟩, fun a k ha => (h.2.2 a k (by omega) (by omega) (by omega)).1, fun a k ha h80 => (h.2.2 a k (by omega) (by omega) (by omega)).2⟩
theorem KE.u {s s' : Sg} (h : KE s s') : GU s s' := ⟨⟨h.1, h.2.1⟩, fun a k ha => (h.2.2 a k (by omega) (by omega) (by omega)).1, fun a k ha h80 => (h.2.2 a k (by omega) (by omega) (by omega)).2⟩
theorem KV.u {s s' : Sg} (h : KV s s') : GU s s' := ⟨⟨h.1, h.2.1⟩, fun a k ha => (h.2.2 a k (by omega) (by omega) (by omega)).1, fun a k ha h80 => (h.2.2 a k (by omega) (by omega) (by omega)).2⟩
/-- a mark as the model holds it, as a world -/
def mkW (V : Vw) (m : Nat) : Vw := fun a k =>
  if a = 46 ∧ k = 10 then V 77 (140 * m) else if a = 46 ∧ k = 11 then V 77 (140 * m + 1) else if a = 46 ∧ k = 12 then V 77 (140 * m + 2) else
  if a = 46 ∧ k = 45 then V 77 (140 * m + 3) else if a = 46 ∧ k = 46 then V 77 (140 * m + 4) else if a = 46 ∧ k = 47 then V 77 (140 * m + 5) else
  if a = 49 ∧ k < 4 then V 77 (140 * m + 6 + k) else if a = 50 ∧ k < 16 then V 77 (140 * m + 10 + k) else
  if a = 51 ∧ k < 8 then V 77 (140 * m + 26 + k) else if a = 52 ∧ k < 8 then V 77 (140 * m + 34 + k) else
  if (69 ≤ a ∧ a ≤ 73) ∧ k < 3 then V 77 (140 * m + 42 + 3 * (a - 69) + k) else if a = 68 ∧ k < 2048 then V 79 (2048 * m + k) else 0
/-- the tape -/
def RT (V : Vw) (s : Sg) : Prop := (mI s 42 2 = V 46 1 ∧ is_n (V 46 1) 1000) ∧ (∀ k, k < 1000 → mI s 43 k = V 47 k) ∧ (∀ k, k < (V 46 1).toNatClampNeg → ∃ c : Nat, V 47 k = nI c ∧ (c = 10 ∨ (32 ≤ c ∧ c ≤ 126)))
/-- the marks -/
def RK (V : Vw) (s : Sg) : Prop := (∀ m, m < 4 → (V 76 m = 0 ∧ mR s 41 m = none) ∨ (V 76 m = 1 ∧ WV (mkW V m) ∧ ∃ j, mR s 41 m = some (81 + 10 * j) ∧ 81 + 10 * j + 10 ≤ mN s ∧ (∀ i, i < 9 → mR s (81 + 10 * j) (6 + i) = some (81 + 10 * j + 1 + i)) ∧ TV (mkW V m) (vT s (81 + 10 * j)))) ∧
  (∀ m m' a, m < 4 → m' < 4 → m ≠ m' → mR s 41 m = some a → mR s 41 m' ≠ some a) ∧ (∃ j, mN s = 81 + 10 * j)
/-- what stands yet of texts that were read -/
def RS (V : Vw) (s : Sg) : Prop := mI s 35 0 = 0 ∧ ∀ k, k < 16 → mI s 33 k = (if k % 4 = 0 then 0 else V 50 (16 + k)) ∧ is_n (V 50 (16 + k)) 999
/-- the signs of the language -/
def RG (s : Sg) : Prop := ∀ k, mI s 3 k = zs_by k
/-- class and model stand alike, after i calls -/
def RC (V : Vw) (i : Nat) (s : Sg) : Prop := RM V s ∧ KT (askW V) s ∧ PL V s ∧ ageN s ≤ 64 * i + 1 ∧ RT V s ∧ RK V s ∧ RS V s ∧ RG s
variable {V V' : Vw} {s s' s1 s2 : Sg}
theorem RM.gu (h : RM V s) (f : GU s s') : RM V s' := by
  refine ⟨by rw [f.1.1]; exact h.1, by rw [f.1.2]; exact h.2.1, h.w, fun a k hk => ?_, ?_⟩
  · have ha : 46 ≤ a := by
      refine Nat.le_of_not_lt fun h9 => ?_
      have : lgM a k = false := by
        unfold lgM
        have e1 : (a == 46) = false := by simp; omega
        have e2 : (a == 49) = false := by simp; omega
        have e3 : (a == 50) = false := by simp; omega
        have e4 : (a == 51) = false := by simp; omega
        have e5 : (a == 52) = false := by simp; omega
        have e6 : decide (68 ≤ a) = false := by simp; omega
        have e7 : (a == 47) = false := by simp; omega
        have e8 : (a == 79) = false := by simp; omega
        rw [e1, e2, e3, e4, e5, e6, e7, e8]
        rfl
      rw [this] at hk
      cases hk
    rw [f.2.1 a k (by omega)]
    exact h.e a k hk
  · rw [f.2.2 46 53 (by decide) (by decide)]; exact h.2.2.2.2
theorem RT.gu (h : RT V s) (f : GU s s') : RT V s' := by
  obtain ⟨⟨h1, h2⟩, h3, h4⟩ := h
  refine ⟨⟨?_, h2⟩, fun k hk => ?_, h4⟩
  · rw [f.2.1 42 2 (by omega)]; exact h1
  · rw [f.2.1 43 k (by omega)]; exact h3 k hk
theorem RK_f (h : RK V s) (hn : mN s' = mN s ∧ s'.2.2.1 = s.2.2.1) (hf : ∀ a k, 81 ≤ a → mI s' a k = mI s a k) : RK V s' := by
  obtain ⟨h1, h2, h3⟩ := h
  have hr : ∀ a k, mR s' a k = mR s a k := fun a k => congrFun (congrFun hn.2 a) k
  refine ⟨fun m hm => ?_, fun m m' a k1 k2 k3 k4 => ?_, by rw [hn.1]; exact h3⟩
  · rw [hr]
    rcases h1 m hm with h9 | ⟨e, w, j, j1, j2, j3, j4⟩
    · exact Or.inl h9
    · refine Or.inr ⟨e, w, j, j1, by rw [hn.1]; exact j2, fun i hi => by rw [hr]; exact j3 i hi, TV_cg j4 (fun i hi => funext fun k => hf (81 + 10 * j + i) k (by omega))⟩
  · rw [hr] at k4 ⊢
    exact h2 m m' a k1 k2 k3 k4
theorem RS.gu (h : RS V s) (f : GU s s') : RS V s' := ⟨(f.2.1 35 0 (by omega)).trans h.1, fun k hk => by
  rw [f.2.1 33 k (by omega)]
  exact h.2 k hk⟩
theorem RG.gu (h : RG s) (f : GU s s') : RG s' := fun k => by
  rw [f.2.1 3 k (by omega)]
  exact h k
/-- what the class's call of one kind comes to -/
def QC {α : Type} (V : Vw) (s : Sg) (f : Option (α × Sg)) (a : α) (E : Sg → Prop) : Prop := ∃ s', f = some (a, s') ∧ KT (askW V) s' ∧ GU s s' ∧ PL V s' ∧ ageN s' ≤ ageN s + 40 ∧ E s'
theorem KQ.a {s s' : Sg} (h : KQ s s') : ageN s' = ageN s := by unfold ageN; rw [(h.2.2 6 5 (by omega) (by decide) (by decide)).1]
theorem KV.a {s s' : Sg} (h : KV s s') : ageN s' = ageN s := by unfold ageN; rw [(h.2.2 6 5 (by omega) (by decide) (by decide)).1]
theorem QK.c {α : Type} {f : Option (α × Sg)} {a : α} (h : QK V s f a) : QC V s f a (fun _ => True) := by
  obtain ⟨s1, e, k, q, p⟩ := h
  exact ⟨s1, e, k, q.u, p, by rw [q.a]; omega, trivial⟩
/-- the model's memory alone changes -/
theorem KT.fo {W : Vw} (h : KT W s) (f : FO s s') : KT W s' := h.gf ⟨f.1, f.2.1, fun b k hb => (f.2.2 b k (by omega)).1⟩
theorem RK_eqW (h : RK V s) (he : eqW V V') : RK V' s := by
  have e : ∀ m, mkW V' m = mkW V m := by
    intro m
    funext a k
    unfold mkW
    simp only [fun k => he 77 k rfl, fun k => he 79 k rfl]
  obtain ⟨h1, h2⟩ := h
  refine ⟨fun m hm => ?_, h2⟩
  rw [he 76 m rfl, e]
  exact h1 m hm
/-- a call of the class and the same call of the model -/
theorem both {α β : Type} {i : Nat} {E : Sg → Prop} {f1 : Option (α × Sg)} {f2 : Sg → Option (β × Sg)} {a1 : α} {a2 : β} {t : Int32} (h : RC V i s) (hK : QC V s f1 a1 E) (hM : ∀ s1, RM V s1 → QM V s1 (f2 s1) a2 t) :
    ∃ s1 s2 V', f1 = some (a1, s1) ∧ f2 s1 = some (a2, s2) ∧ RC V' (i + 1) s2 ∧ zl_B s1 ∧ zl_B s2 ∧ mI s2 46 0 = t ∧ E s1 ∧ mL s2 80 0 = mL s1 80 0 ∧ (∀ k, mI s1 0 k = mI s 0 k ∧ mI s2 0 k = mI s 0 k) := by
  obtain ⟨hR, hT, hP, hA, hta, hma, hst, hsg⟩ := h
  obtain ⟨s1, e1, k1, g1, p1, a1', x1⟩ := hK
  have r1 := hR.gu g1
  obtain ⟨s2, V', e2, r2, f2', w2, t2⟩ := hM s1 r1
  have b1 := k1.1.b
  have k2 := k1.fo f2'
  refine ⟨s1, s2, V', e1, e2, ⟨r2, ?_, ?_, ?_, ?_, ?_, ?_, ?_⟩, b1, k2.1.b, t2, x1, (f2'.2.2 80 0 (by omega)).2, fun k => ⟨g1.2.1 0 k (by omega), ((f2'.2.2 0 k (by omega)).1).trans (g1.2.1 0 k (by omega))⟩⟩
  · rw [askW_cg w2]; exact k2
  · intro x hx
    rw [sOws_cg w2] at hx
    have ep : plv V' x = plv V x := by unfold plv; rw [plO_cg w2]
    rw [(f2'.2.2 45 x (by omega)).1, ep]
    exact p1 x hx
  · have : ageN s2 = ageN s1 := by unfold ageN; rw [(f2'.2.2 6 5 (by omega)).1]
    rw [this]
    omega
  · obtain ⟨⟨h1, h2⟩, h3, h4⟩ := hta.gu g1
    have e46 : V' 46 1 = V 46 1 := w2 46 1 rfl
    have e47 : ∀ k, V' 47 k = V 47 k := fun k => w2 47 k rfl
    refine ⟨⟨?_, by rw [e46]; exact h2⟩, fun k hk => ?_, fun k hk => ?_⟩
    · rw [(f2'.2.2 42 2 (by omega)).1, e46]; exact h1
    · rw [(f2'.2.2 43 k (by omega)).1, e47]; exact h3 k hk
    · rw [e46] at hk; rw [e47]; exact h4 k hk
  · exact RK_eqW (RK_f (RK_f hma g1.1 (fun a k ha => g1.2.1 a k (by omega))) ⟨f2'.1, f2'.2.1⟩ (fun a k ha => (f2'.2.2 a k (by omega)).1)) w2
  · refine ⟨((f2'.2.2 35 0 (by omega)).1).trans (hst.gu g1).1, fun k hk => ?_⟩
    obtain ⟨h1, h2⟩ := (hst.gu g1).2 k hk
    have e50 : V' 50 (16 + k) = V 50 (16 + k) := w2 50 _ rfl
    rw [(f2'.2.2 33 k (by omega)).1, e50]
    exact ⟨h1, h2⟩
  · intro k
    rw [(f2'.2.2 3 k (by omega)).1]
    exact hsg.gu g1 k
/-- .. of a telling -/
theorem bothS {i : Nat} {f1 : Option (Int32 × Sg)} {f2 : Sg → Option (Int32 × Sg)} {a : Int32} (h : RC V i s) (hs : ∀ b j, ¬ (69 ≤ b ∧ b ≤ 73) → ¬ (b = 46 ∧ 45 ≤ j ∧ j ≤ 47) → V' b j = V b j) (hK : QV V' s f1 a) (hM : ∀ s1, RM V s1 → QS V' s1 (f2 s1) a) :
    ∃ s1 s2, f1 = some (a, s1) ∧ f2 s1 = some (a, s2) ∧ RC V' (i + 1) s2 ∧ zl_B s1 ∧ zl_B s2 ∧ (∀ k, mI s1 0 k = mI s 0 k ∧ mI s2 0 k = mI s 0 k) := by
  obtain ⟨hR, hT, hP, hA, hta, hma, hst, hsg⟩ := h
  obtain ⟨s1, e1, k1, q1, p1⟩ := hK
  have g1 := q1.u
  obtain ⟨s2, e2, r2, f2', -⟩ := hM s1 (hR.gu g1)
  have b1 := k1.1.b
  have k2 := k1.fo f2'
  refine ⟨s1, s2, e1, e2, ⟨r2, k2, ?_, ?_, ?_, ?_, ?_, ?_⟩, b1, k2.1.b, fun k => ⟨g1.2.1 0 k (by omega), ((f2'.2.2 0 k (by omega)).1).trans (g1.2.1 0 k (by omega))⟩⟩
  · intro x hx
    rw [(f2'.2.2 45 x (by omega)).1]
    exact p1 x hx
  · have : ageN s2 = ageN s := by
      have e0 := q1.a
      unfold ageN at e0 ⊢
      rw [(f2'.2.2 6 5 (by omega)).1]
      exact e0
    rw [this]
    omega
  · obtain ⟨⟨h1, h2⟩, h3, h4⟩ := hta.gu g1
    have e46 : V' 46 1 = V 46 1 := hs 46 1 (by omega) (by omega)
    have e47 : ∀ k, V' 47 k = V 47 k := fun k => hs 47 k (by omega) (by omega)
    refine ⟨⟨?_, by rw [e46]; exact h2⟩, fun k hk => ?_, fun k hk => ?_⟩
    · rw [(f2'.2.2 42 2 (by omega)).1, e46]; exact h1
    · rw [(f2'.2.2 43 k (by omega)).1, e47]; exact h3 k hk
    · rw [e46] at hk; rw [e47]; exact h4 k hk
  · have hk := RK_f (RK_f hma g1.1 (fun a k ha => g1.2.1 a k (by omega))) (s' := s2) ⟨f2'.1, f2'.2.1⟩ (fun a k ha => (f2'.2.2 a k (by omega)).1)
    have e : ∀ m, mkW V' m = mkW V m := by
      intro m
      funext a k
      unfold mkW
      simp only [fun k => hs 77 k (by omega) (by omega), fun k => hs 79 k (by omega) (by omega)]
    refine ⟨fun m hm => ?_, hk.2⟩
    rw [hs 76 m (by omega) (by omega), e]
    exact hk.1 m hm
  · refine ⟨((f2'.2.2 35 0 (by omega)).1).trans (hst.gu g1).1, fun k hk => ?_⟩
    obtain ⟨h1, h2⟩ := (hst.gu g1).2 k hk
    have e50 : V' 50 (16 + k) = V 50 (16 + k) := hs 50 _ (by omega) (by omega)
    rw [(f2'.2.2 33 k (by omega)).1, e50]
    exact ⟨h1, h2⟩
  · intro k
    rw [(f2'.2.2 3 k (by omega)).1]
    exact hsg.gu g1 k
theorem mL_at (s : Sg) (a k : Nat) (x : Int64) : mL (uL s a k x) a k = x := by
  show zl_up s.2.1 a k x a k = x
  exact zl_up_at _ _ _ _
theorem mL_ne (s : Sg) {a k b j : Nat} (x : Int64) (h : ¬ (b = a ∧ j = k)) : mL (uL s a k x) b j = mL s b j := by
  show zl_up s.2.1 a k x b j = s.2.1 b j
  exact zl_up_ne _ _ h
/-- a wrapper of the law: what is thrown, what is answered -/
theorem la_I {f : Option (Option Int32 × Sg)} {b : Bool} {x : Int32} (h : QK V s f (oB b x)) : QC V s (f_bd f fun r2 s3 => f_mt r2 (some ((1 : Int32), s3)) fun r4 => f_ck (zl_B s3) (some ((0 : Int32), uL s3 80 (Int32.toNatClampNeg (0 : Int32)) (Int32.toInt64 r4)))) (tB b) (fun s' => b = true → mL s' 80 0 = x.toInt64) := by
  obtain ⟨s1, e, k, q, p⟩ := h
  rw [f_bd_of e]
  cases b with
  | false => exact ⟨s1, rfl, k, q.u, p, by rw [q.a]; omega, fun h9 => by cases h9⟩
  | true =>
    refine ⟨uL s1 80 0 x.toInt64, ?_, k.gf ⟨rfl, rfl, fun _ _ _ => rfl⟩, ⟨q.u.1, q.u.2.1, fun a k ha h80 => ?_⟩, p, ?_, fun _ => mL_at _ _ _ _⟩
    · show f_ck (zl_B s1) _ = _
      rw [f_ck_of k.1.b]
      rfl
    · exact (mL_ne _ _ (fun e => h80 e.1)).trans (q.u.2.2 a k ha h80)
    · have : ageN (uL s1 80 0 x.toInt64) = ageN s1 := rfl
      rw [this, q.a]; omega
theorem la_L {f : Option (Option Int64 × Sg)} {b : Bool} {x : Int64} (h : QK V s f (oB b x)) : QC V s (f_bd f fun r2 s3 => f_mt r2 (some ((1 : Int32), s3)) fun r4 => f_ck (zl_B s3) (some ((0 : Int32), uL s3 80 (Int32.toNatClampNeg (0 : Int32)) r4))) (tB b) (fun s' => b = true → mL s' 80 0 = x) := by
  obtain ⟨s1, e, k, q, p⟩ := h
  rw [f_bd_of e]
  cases b with
  | false => exact ⟨s1, rfl, k, q.u, p, by rw [q.a]; omega, fun h9 => by cases h9⟩
  | true =>
    refine ⟨uL s1 80 0 x, ?_, k.gf ⟨rfl, rfl, fun _ _ _ => rfl⟩, ⟨q.u.1, q.u.2.1, fun a k ha h80 => ?_⟩, p, ?_, fun _ => mL_at _ _ _ _⟩
    · show f_ck (zl_B s1) _ = _
      rw [f_ck_of k.1.b]
      rfl
    · exact (mL_ne _ _ (fun e => h80 e.1)).trans (q.u.2.2 a k ha h80)
    · have : ageN (uL s1 80 0 x) = ageN s1 := rfl
      rw [this, q.a]; omega
end
