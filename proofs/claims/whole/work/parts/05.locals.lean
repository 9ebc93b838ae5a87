/-! locals as lists: .retAddr 0 stands for what isn't known -/
section
def zl_lp (ρ : Nat → Nat) : Nat → List Value → List (Nat × Value)
  | _, [] => []
  | i, v :: r => if v = .retAddr 0 then zl_lp ρ (i + 1) r else (i, zl_rv ρ v) :: zl_lp ρ (i + 1) r
theorem zl_lp_mem {ρ : Nat → Nat} : ∀ (ls : List Value) (k : Nat) (q : Nat × Value), q ∈ zl_lp ρ k ls ↔ ∃ (j : Nat) (v : Value), ls[j]? = some v ∧ v ≠ .retAddr 0 ∧ q = (k + j, zl_rv ρ v) := by
  intro ls
  induction ls with
  | nil => intro k q; simp [zl_lp]
  | cons a r ih =>
    intro k q
    unfold zl_lp
    by_cases h : a = .retAddr 0
    · rw [if_pos h, ih]
      constructor
      · rintro ⟨j, v, h1, h2, h3⟩
        exact ⟨j + 1, v, by simpa using h1, h2, by rw [h3]; congr 1; omega⟩
      · rintro ⟨j, v, h1, h2, h3⟩
        cases j with
        | zero => simp at h1; exact absurd (h1 ▸ h) h2
        | succ j => exact ⟨j, v, by simpa using h1, h2, by rw [h3]; congr 1; omega⟩
    · rw [if_neg h, List.mem_cons, ih]
      constructor
      · rintro (h0 | ⟨j, v, h1, h2, h3⟩)
        · exact ⟨0, a, by simp, h, h0⟩
        · exact ⟨j + 1, v, by simpa using h1, h2, by rw [h3]; congr 1; omega⟩
      · rintro ⟨j, v, h1, h2, h3⟩
        cases j with
        | zero => simp at h1; subst h1; exact Or.inl h3
        | succ j => exact Or.inr ⟨j, v, by simpa using h1, h2, by rw [h3]; congr 1; omega⟩
theorem zl_L.has {ρ : Nat → Nat} {nL : Nat} {ls : List Value} {l : Array Slot} (h : zl_L ρ nL ls l) : lv_has l nL (zl_lp ρ 0 ls) := by
  refine ⟨h.1, h.2.1, fun q hq => ?_⟩
  obtain ⟨j, v, h1, h2, rfl⟩ := (zl_lp_mem ls 0 q).mp hq
  rw [Nat.zero_add]
  exact h.2.2.2 j v h1 h2
def zl_clr (ls : List Value) (i : Nat) : List Value := match i with
  | 0 => ls
  | j + 1 => match ls[j]? with
    | some x => if x.category = 2 then ls.set j (.retAddr 0) else ls
    | none => ls
def zl_s1 (ls : List Value) (i : Nat) (v : Value) : List Value := (zl_clr ls i).set i v
def zl_s2 (ls : List Value) (i : Nat) (v : Value) : List Value := ((zl_clr ls i).set i v).set (i + 1) (.retAddr 0)
theorem zl_clr_len (ls : List Value) (i : Nat) : (zl_clr ls i).length = ls.length := by
  unfold zl_clr
  split
  · rfl
  · split
    · split <;> simp
    · rfl
theorem zl_rv_cat (ρ : Nat → Nat) (v : Value) : (zl_rv ρ v).category = v.category := by cases v <;> rfl
theorem zl_clr_at {ls : List Value} {i j : Nat} {v : Value} (h : (zl_clr ls i)[j]? = some v) (hv : v ≠ .retAddr 0) : ls[j]? = some v ∧ (j + 1 = i → v.category ≠ 2) := by
  unfold zl_clr at h
  split at h
  · exact ⟨h, fun e => absurd e (Nat.succ_ne_zero _)⟩
  · next k =>
    split at h
    · next x hx =>
      split at h
      · next hc =>
        rw [List.getElem?_set] at h
        split at h
        · split at h
          · exact absurd (Option.some.inj h).symm hv
          · cases h
        · next hjk =>
          exact ⟨h, fun e => absurd (by omega) hjk⟩
      · next hc =>
        refine ⟨h, fun e => ?_⟩
        have : j = k := by omega
        subst this
        rw [hx] at h
        cases h
        exact hc
    · next hx =>
      refine ⟨h, fun e => ?_⟩
      have : j = k := by omega
      subst this
      rw [hx] at h
      cases h
theorem zl_st1 {ρ : Nat → Nat} {nL : Nat} {ls : List Value} {l l' : Array Slot} {i : Nat} {v : Value} (h : zl_L ρ nL ls l) (hi : i < nL)
    (h' : lv_has l' nL ((i, zl_rv ρ v) :: (zl_lp ρ 0 ls).filter (fun q => !(q.1 == i) && !(q.1 + 1 == i && q.2.category == 2)))) : zl_L ρ nL (zl_s1 ls i v) l' := by
  refine ⟨h'.1, h'.2.1, by simp [zl_s1, zl_clr_len, h.2.2.1], fun j x hx hn => ?_⟩
  unfold zl_s1 at hx
  rw [List.getElem?_set] at hx
  split at hx
  · next hij =>
    subst hij
    split at hx
    · cases hx
      exact h'.2.2 _ List.mem_cons_self
    · cases hx
  · next hij =>
    obtain ⟨h1, h2⟩ := zl_clr_at hx hn
    refine h'.2.2 (j, zl_rv ρ x) (List.mem_cons_of_mem _ (List.mem_filter.mpr ⟨(zl_lp_mem ls 0 _).mpr ⟨j, x, h1, hn, by rw [Nat.zero_add]⟩, ?_⟩))
    simp only [zl_rv_cat, Bool.and_eq_true, Bool.not_eq_true', beq_eq_false_iff_ne, Bool.and_eq_false_iff]
    refine ⟨fun e => hij e.symm, ?_⟩
    by_cases e : j + 1 = i
    · exact Or.inr (h2 e)
    · exact Or.inl e
theorem zl_st2 {ρ : Nat → Nat} {nL : Nat} {ls : List Value} {l l' : Array Slot} {i : Nat} {v : Value} (h : zl_L ρ nL ls l) (hi : i + 1 < nL)
    (h' : lv_has l' nL ((i, zl_rv ρ v) :: (zl_lp ρ 0 ls).filter (fun q => !(q.1 == i) && (!(q.1 == i + 1) && !(q.1 + 1 == i && q.2.category == 2))))) : zl_L ρ nL (zl_s2 ls i v) l' := by
  refine ⟨h'.1, h'.2.1, by simp [zl_s2, zl_clr_len, h.2.2.1], fun j x hx hn => ?_⟩
  unfold zl_s2 at hx
  rw [List.getElem?_set] at hx
  split at hx
  · split at hx
    · exact absurd (Option.some.inj hx).symm hn
    · cases hx
  · next hij1 =>
    rw [List.getElem?_set] at hx
    split at hx
    · next hij =>
      subst hij
      split at hx
      · cases hx
        exact h'.2.2 _ List.mem_cons_self
      · cases hx
    · next hij =>
      obtain ⟨h1, h2⟩ := zl_clr_at hx hn
      refine h'.2.2 (j, zl_rv ρ x) (List.mem_cons_of_mem _ (List.mem_filter.mpr ⟨(zl_lp_mem ls 0 _).mpr ⟨j, x, h1, hn, by rw [Nat.zero_add]⟩, ?_⟩))
      simp only [zl_rv_cat, Bool.and_eq_true, Bool.not_eq_true', beq_eq_false_iff_ne, Bool.and_eq_false_iff]
      refine ⟨fun e => hij e.symm, fun e => hij1 e.symm, ?_⟩
      by_cases e : j + 1 = i
      · exact Or.inr (h2 e)
      · exact Or.inl e
theorem zl_set_wf {n : Nat} {ls : List Value} {i : Nat} {v : Value} (h : ∀ x ∈ ls, zl_wf n x) (hv : zl_wf n v) : ∀ x ∈ ls.set i v, zl_wf n x := by
  intro x hx
  rcases List.mem_or_eq_of_mem_set hx with h1 | h1
  · exact h x h1
  · rw [h1]; exact hv
theorem zl_clr_wf {n : Nat} {ls : List Value} {i : Nat} (h : ∀ x ∈ ls, zl_wf n x) : ∀ x ∈ zl_clr ls i, zl_wf n x := by
  unfold zl_clr
  split
  · exact h
  · split
    · split
      · exact zl_set_wf h trivial
      · exact h
    · exact h
theorem zl_s1_wf {n : Nat} {ls : List Value} {i : Nat} {v : Value} (h : ∀ x ∈ ls, zl_wf n x) (hv : zl_wf n v) : ∀ x ∈ zl_s1 ls i v, zl_wf n x := zl_set_wf (zl_clr_wf h) hv
theorem zl_s2_wf {n : Nat} {ls : List Value} {i : Nat} {v : Value} (h : ∀ x ∈ ls, zl_wf n x) (hv : zl_wf n v) : ∀ x ∈ zl_s2 ls i v, zl_wf n x := zl_set_wf (zl_set_wf (zl_clr_wf h) hv) trivial
/-- the locals with which a method begins -/
def zl_lay : List Value → List Value
  | [] => []
  | v :: r => if v.category = 2 then v :: .retAddr 0 :: zl_lay r else v :: zl_lay r
def zl_en (as : List Value) (nL : Nat) : List Value := zl_lay as ++ List.replicate (nL - (zl_lay as).length) (.retAddr 0)
theorem zl_lay_len (ρ : Nat → Nat) (as : List Value) : (lg_sl (as.map (zl_rv ρ))).length = (zl_lay as).length := by
  induction as with
  | nil => rfl
  | cons a r ih =>
    simp only [List.map_cons, lg_sl, List.flatMap_cons, List.length_append, zl_lay, zl_rv_cat] at ih ⊢
    by_cases h : a.category = 2
    · simp only [h, if_true, List.length_cons, List.length_nil] at ih ⊢
      omega
    · simp only [h, if_false, List.length_cons, List.length_nil] at ih ⊢
      omega
theorem zl_lay_at (ρ : Nat → Nat) : ∀ (as : List Value) (k j : Nat) (v : Value), (zl_lay as)[j]? = some v → v ≠ .retAddr 0 → (k + j, zl_rv ρ v) ∈ lv_args k (as.map (zl_rv ρ)) := by
  intro as
  induction as with
  | nil => intro k j v h; simp [zl_lay] at h
  | cons a r ih =>
    intro k j v h hv
    simp only [List.map_cons, lv_args, zl_rv_cat]
    unfold zl_lay at h
    by_cases hc : a.category = 2
    · simp only [hc, if_true] at h ⊢
      cases j with
      | zero => simp at h; subst h; simp
      | succ j =>
        cases j with
        | zero => simp at h; exact absurd h.symm hv
        | succ j =>
          have := ih (k + 2) j v (by simpa using h) hv
          rw [show k + (j + 1 + 1) = k + 2 + j by omega]
          exact List.mem_cons_of_mem _ this
    · simp only [hc, if_false] at h ⊢
      cases j with
      | zero => simp at h; subst h; simp
      | succ j =>
        have := ih (k + 1) j v (by simpa using h) hv
        rw [show k + (j + 1) = k + 1 + j by omega]
        exact List.mem_cons_of_mem _ this
theorem zl_entry (ρ : Nat → Nat) (as : List Value) {nL : Nat} (h : (zl_lay as).length ≤ nL) :
    zl_L ρ nL (zl_en as nL) ((lg_sl (as.map (zl_rv ρ)) ++ List.replicate (nL - (lg_sl (as.map (zl_rv ρ))).length) Slot.unset).toArray) := by
  have hl := lv_entry (as.map (zl_rv ρ)) (n := nL) (by rw [zl_lay_len]; exact h)
  refine ⟨hl.1, hl.2.1, by simp [zl_en]; omega, fun j v hj hv => ?_⟩
  unfold zl_en at hj
  by_cases hlt : j < (zl_lay as).length
  · rw [List.getElem?_append_left hlt] at hj
    have := zl_lay_at ρ as 0 j v hj hv
    rw [Nat.zero_add] at this
    exact hl.2.2 _ this
  · rw [List.getElem?_append_right (by omega)] at hj
    exact absurd (List.eq_of_mem_replicate (List.mem_of_getElem? hj)) hv
theorem zl_lay_wf {n : Nat} {as : List Value} (h : ∀ x ∈ as, zl_wf n x) : ∀ x ∈ zl_lay as, zl_wf n x := by
  induction as with
  | nil => intro x hx; simp [zl_lay] at hx
  | cons a r ih =>
    intro x hx
    unfold zl_lay at hx
    have hr := ih fun y hy => h y (List.mem_cons_of_mem _ hy)
    split at hx
    · rcases List.mem_cons.mp hx with rfl | hx
      · exact h _ List.mem_cons_self
      · rcases List.mem_cons.mp hx with rfl | hx
        · trivial
        · exact hr x hx
    · rcases List.mem_cons.mp hx with rfl | hx
      · exact h _ List.mem_cons_self
      · exact hr x hx
theorem zl_en_wf {n nL : Nat} {as : List Value} (h : ∀ x ∈ as, zl_wf n x) : ∀ x ∈ zl_en as nL, zl_wf n x := by
  intro x hx
  rcases List.mem_append.mp hx with h1 | h1
  · exact zl_lay_wf h x h1
  · rw [List.eq_of_mem_replicate h1]; trivial
/-- the same words at other addresses that agree -/
theorem zl_rv_ext {ρ ρ' : Nat → Nat} {n : Nat} (h : ∀ a, a < n → ρ' a = ρ a) {v : Value} (hv : zl_wf n v) : zl_rv ρ' v = zl_rv ρ v := by
  cases v <;> first | rfl | exact congrArg Value.ref (h _ hv)
theorem zl_map_ext {ρ ρ' : Nat → Nat} {n : Nat} (h : ∀ a, a < n → ρ' a = ρ a) {l : List Value} (hl : ∀ v ∈ l, zl_wf n v) : l.map (zl_rv ρ') = l.map (zl_rv ρ) := List.map_congr_left fun v hv => zl_rv_ext h (hl v hv)
theorem zl_wf.mono {n n' : Nat} (h : n ≤ n') {v : Value} (hv : zl_wf n v) : zl_wf n' v := by
  cases v <;> first | trivial | exact Nat.lt_of_lt_of_le hv h
theorem zl_wfs.mono {n n' : Nat} (h : n ≤ n') {l : List Value} (hl : ∀ v ∈ l, zl_wf n v) : ∀ v ∈ l, zl_wf n' v := fun v hv => (hl v hv).mono h
theorem zl_L.ext {ρ ρ' : Nat → Nat} {n nL : Nat} {ls : List Value} {l : Array Slot} (h : zl_L ρ nL ls l) (hr : ∀ a, a < n → ρ' a = ρ a) (hw : ∀ v ∈ ls, zl_wf n v) : zl_L ρ' nL ls l :=
  ⟨h.1, h.2.1, h.2.2.1, fun i v hi hv => by rw [zl_rv_ext hr (hw v (List.mem_of_getElem? hi))]; exact h.2.2.2 i v hi hv⟩
theorem zl_wi {n : Nat} {r : List Value} {x : Int32} (h : ∀ v ∈ r, zl_wf n v) : ∀ v ∈ Value.int x :: r, zl_wf n v := fun v hv => by
  rcases List.mem_cons.mp hv with rfl | hv
  · trivial
  · exact h v hv
theorem zl_wl {n : Nat} {r : List Value} {x : Int64} (h : ∀ v ∈ r, zl_wf n v) : ∀ v ∈ Value.long x :: r, zl_wf n v := fun v hv => by
  rcases List.mem_cons.mp hv with rfl | hv
  · trivial
  · exact h v hv
theorem zl_wc {n : Nat} {r : List Value} {x : Value} (hx : zl_wf n x) (h : ∀ v ∈ r, zl_wf n v) : ∀ v ∈ x :: r, zl_wf n v := fun v hv => by
  rcases List.mem_cons.mp hv with rfl | hv
  · exact hx
  · exact h v hv
theorem zl_wt {n : Nat} {r : List Value} {x : Value} (h : ∀ v ∈ x :: r, zl_wf n v) : ∀ v ∈ r, zl_wf n v := fun v hv => h v (List.mem_cons_of_mem _ hv)
theorem zl_wh {n : Nat} {r : List Value} {x : Value} (h : ∀ v ∈ x :: r, zl_wf n v) : zl_wf n x := h x List.mem_cons_self
end
