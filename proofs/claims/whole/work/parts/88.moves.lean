/-! mark: all the places of a telling are moved -/
section
variable {s s0 : Sg} {x2 : Int32} {m : Nat}
theorem m_477 (hm : m < 4) (hb : zl_B s0) : ∀ (n k F : Nat) (s : Sg) (D : Nat → Prop), n < F → k + n = 2048 → MV x2 m s0 s D → (∀ i, i < 57 + k → D i) → okx (fun _ s' => MV x2 m s0 s' (fun _ => True)) (f_Mo_moves_h477 F (nI m) x2 (nI k) s) := by
  intro n
  induction n with
  | zero =>
    intro k F s D hF hk h hD
    obtain ⟨F, rfl⟩ : ∃ f, F = f + 1 := ⟨F - 1, by omega⟩
    obtain rfl : k = 2048 := by omega
    refine ⟨(), s, ?_, h.all (fun i hi => hD i (by omega))⟩
    show f_Mo_moves_b477 _ _ _ _ _ = _
    unfold f_Mo_moves_b477
    rw [if_pos (by decide)]
  | succ n ih =>
    intro k F s D hF hk h hD
    obtain ⟨F, rfl⟩ : ∃ f, F = f + 1 := ⟨F - 1, by omega⟩
    have e1 : nI k + 1 = nI (k + 1) := nI_add k 1
    have e2 : (2048 : Int32) * nI m + nI k = nI (2048 * m + k) := by rw [show (2048 : Int32) = nI 2048 from rfl, nI_mul, nI_add]
    have hi : 57 + k < 2105 := by omega
    have ekp : kp (57 + k) = (68, k) := by
      unfold kp
      rw [if_neg (by omega), if_neg (by omega), if_neg (by omega), if_neg (by omega), if_neg (by omega), if_neg (by omega), if_neg (by omega), show 57 + k - 57 = k by omega]
    have ekm : km m (57 + k) = (79, 2048 * m + k) := by
      unfold km
      rw [if_neg (by omega), show 57 + k - 57 = k by omega]
    show okx _ (f_Mo_moves_b477 _ _ _ _ _)
    unfold f_Mo_moves_b477 f_Mo_moves_b532
    rw [if_neg (show ¬ (2048 : Int32) ≤ nI k from nI_ge (b := 2048) (by omega) (by decide)), e2]
    by_cases c : x2 = 0
    · rw [if_pos c, nI_clamp (by omega), nI_clamp (by omega), e1]
      refine ox_ck (h.b hb) (ox_ck (vp_in_nI (by omega) (by decide)) (ox_ck (vp_in_nI (by omega) (by decide)) ?_))
      refine ih (k + 1) F (uI s 79 (2048 * m + k) (mI s 68 k)) (fun j => D j ∨ j = 57 + k) (by omega) (by omega) ?_ (fun i hi => ?_)
      · have et : tg x2 m (57 + k) = (79, 2048 * m + k) := by unfold tg; rw [if_pos c, ekm]
        have es : sr x2 m (57 + k) = (68, k) := by unfold sr; rw [if_pos c, ekp]
        refine h.st hi ⟨⟨rfl, rfl⟩, fun _ _ => rfl⟩ ?_ (fun b j hbj => ?_)
        · rw [et, es]; exact mI_at _ _ _ _
        · rw [et] at hbj
          exact mI_ne _ _ (fun g => hbj (by rw [g.1, g.2]))
      · by_cases q : i = 57 + k
        · exact Or.inr q
        · exact Or.inl (hD i (by omega))
    · rw [if_neg c, nI_clamp (by omega), nI_clamp (by omega), e1]
      refine ox_ck (h.b hb) (ox_ck (vp_in_nI (by omega) (by decide)) (ox_ck (vp_in_nI (by omega) (by decide)) ?_))
      refine ih (k + 1) F (uI s 68 k (mI s 79 (2048 * m + k))) (fun j => D j ∨ j = 57 + k) (by omega) (by omega) ?_ (fun i hi => ?_)
      · have et : tg x2 m (57 + k) = (68, k) := by unfold tg; rw [if_neg c, ekp]
        have es : sr x2 m (57 + k) = (79, 2048 * m + k) := by unfold sr; rw [if_neg c, ekm]
        refine h.st hi ⟨⟨rfl, rfl⟩, fun _ _ => rfl⟩ ?_ (fun b j hbj => ?_)
        · rw [et, es]; exact mI_at _ _ _ _
        · rw [et] at hbj
          exact mI_ne _ _ (fun g => hbj (by rw [g.1, g.2]))
      · by_cases q : i = 57 + k
        · exact Or.inr q
        · exact Or.inl (hD i (by omega))
theorem m_416 (hm : m < 4) (hb : zl_B s0) {D : Nat → Prop} (hD : ∀ i, i < 57 → D i) : ∀ (n k F : Nat) (s : Sg), n < F → k + n = 7 → MV x2 m s0 s D → okx (fun _ s' => MV x2 m s0 s' (fun _ => True)) (f_Mo_moves_h416 F (nI m) x2 (nI k) s) := by
  intro n
  induction n with
  | zero =>
    intro k F s hF hk h
    obtain ⟨F, rfl⟩ : ∃ f, F = f + 1 := ⟨F - 1, by omega⟩
    obtain rfl : k = 7 := by omega
    show okx _ (f_Mo_moves_b416 _ _ _ _ _)
    unfold f_Mo_moves_b416 f_Mo_moves_b474
    rw [if_pos (by decide)]
    exact m_477 hm hb 2048 0 zl_fl s D (zl_fl_lt (by decide)) (by decide) h hD
  | succ n ih =>
    intro k F s hF hk h
    obtain ⟨F, rfl⟩ : ∃ f, F = f + 1 := ⟨F - 1, by omega⟩
    have e1 : nI k + 1 = nI (k + 1) := nI_add k 1
    have e2 : (7 : Int32) * nI m + nI k = nI (7 * m + k) := by rw [show (7 : Int32) = nI 7 from rfl, nI_mul, nI_add]
    show okx _ (f_Mo_moves_b416 _ _ _ _ _)
    unfold f_Mo_moves_b416 f_Mo_moves_b468
    rw [if_neg (show ¬ (7 : Int32) ≤ nI k from nI_ge (b := 7) (by omega) (by decide)), e2]
    by_cases c : x2 = 0
    · rw [if_pos c, nI_clamp (by omega), nI_clamp (by omega), e1]
      refine ox_ck (h.b hb) (ox_ck (vp_in_nI (by omega) (by decide)) (ox_ck (vp_in_nI (by omega) (by decide)) ?_))
      exact ih (k + 1) F _ (by omega) (by omega) (mv_uL h _ (Or.inl rfl))
    · rw [if_neg c, nI_clamp (by omega), nI_clamp (by omega), e1]
      refine ox_ck (h.b hb) (ox_ck (vp_in_nI (by omega) (by decide)) (ox_ck (vp_in_nI (by omega) (by decide)) ?_))
      exact ih (k + 1) F _ (by omega) (by omega) (mv_uL h _ (Or.inr rfl))
/-- what the ownings' last place may hold -/
def h01 (x2 : Int32) (m : Nat) (s0 : Sg) : Prop := ∀ k, k < 3 → mI s0 (sr x2 m (54 + k)).1 (sr x2 m (54 + k)).2 = 0 ∨ mI s0 (sr x2 m (54 + k)).1 (sr x2 m (54 + k)).2 = 1
theorem kp_o {a k i : Nat} (ha : 69 ≤ a ∧ a ≤ 73) (hk : k < 3) (e : i = 42 + 3 * (a - 69) + k) : kp i = (a, k) := by
  have h1 : (i - 42) / 3 = a - 69 := by omega
  have h2 : (i - 42) % 3 = k := by omega
  unfold kp
  rw [if_neg (by omega), if_neg (by omega), if_neg (by omega), if_neg (by omega), if_neg (by omega), if_neg (by omega), if_pos (by omega), h1, h2, show 69 + (a - 69) = a by omega]
theorem m_254 (hm : m < 4) (hb : zl_B s0) (h01' : h01 x2 m s0) : ∀ (n k F : Nat) (s : Sg) (D : Nat → Prop), n < F → k + n = 3 → MV x2 m s0 s D → (∀ i, (i < 42 ∨ (i < 57 ∧ (i - 42) % 3 < k)) → D i) → okx (fun _ s' => MV x2 m s0 s' (fun _ => True)) (f_Mo_moves_h254 F (nI m) x2 (nI (140 * m)) (nI k) s) := by
  intro n
  induction n with
  | zero =>
    intro k F s D hF hk h hD
    obtain ⟨F, rfl⟩ : ∃ f, F = f + 1 := ⟨F - 1, by omega⟩
    obtain rfl : k = 3 := by omega
    show okx _ (f_Mo_moves_b254 _ _ _ _ _ _)
    unfold f_Mo_moves_b254 f_Mo_moves_b413
    rw [if_pos (by decide)]
    exact m_416 hm hb (fun i hi => hD i (by omega)) 7 0 zl_fl s (zl_fl_lt (by decide)) (by decide) h
  | succ n ih =>
    intro k F s D hF hk h hD
    obtain ⟨F, rfl⟩ : ∃ f, F = f + 1 := ⟨F - 1, by omega⟩
    have hk3 : k < 3 := by omega
    have e1 : nI k + 1 = nI (k + 1) := nI_add k 1
    have ec : (nI k).toNatClampNeg = k := nI_clamp (by omega)
    have v3 : vp_in (nI k) 3 := vp_in_nI hk3 (by decide)
    have ey : ∀ c : Nat, (nI (140 * m) + nI c) + nI k = nI (140 * m + (c + k)) := fun c => by rw [nI_add, nI_add, show 140 * m + c + k = 140 * m + (c + k) by omega]
    show okx _ (f_Mo_moves_b254 _ _ _ _ _ _)
    unfold f_Mo_moves_b254
    rw [if_neg (show ¬ (3 : Int32) ≤ nI k from nI_ge (b := 3) hk3 (by decide))]
    simp only [ec]
    refine ox_ck (h.b hb) (ox_ck v3 ?_)
    refine m_k1 hm hb h (i := 42 + k) (by omega) (kp_o (by decide) hk3 (by omega)) (ey 42) (fun r1 s1 h1 b1 => ox_ck v3 ?_)
    refine ox_ck v3 ?_
    refine m_k1 hm hb h1 (i := 45 + k) (by omega) (kp_o (by decide) hk3 (by omega)) (ey 45) (fun r2 s2 h2 b2 => ox_ck v3 ?_)
    refine ox_ck v3 ?_
    refine m_k1 hm hb h2 (i := 48 + k) (by omega) (kp_o (by decide) hk3 (by omega)) (ey 48) (fun r3 s3 h3 b3 => ox_ck v3 ?_)
    refine ox_ck v3 ?_
    refine m_k1 hm hb h3 (i := 51 + k) (by omega) (kp_o (by decide) hk3 (by omega)) (ey 51) (fun r4 s4 h4 b4 => ox_ck v3 ?_)
    refine ox_ck v3 ?_
    have hlast : ∀ v : Int32, (x2 = 0 → v = mI (uI s4 72 k r4) 73 k) → okx (fun _ s' => MV x2 m s0 s' (fun _ => True)) (f_Mo_moves_b393 (f_Mo_moves_h254 F) (nI m) x2 (nI (140 * m)) (nI k) (nI k) ((nI (140 * m) + 54) + nI k) v (uI s4 72 k r4)) := by
      intro v hv
      obtain ⟨s5, e5, b5, h5, -⟩ := m_keep hm hb h4 (i := 54 + k) (by omega) (kp_o (a := 73) (k := k) (by decide) hk3 (by omega)) (ey 54) hv
      unfold f_Mo_moves_b393
      refine ox_ck (h4.b hb) (ox_bd e5 ?_)
      have hnext : okx (fun _ s' => MV x2 m s0 s' (fun _ => True)) (f_Mo_moves_h254 F (nI m) x2 (nI (140 * m)) (nI k + 1) (uI s5 73 k (mI s0 (sr x2 m (54 + k)).1 (sr x2 m (54 + k)).2))) := by
        rw [e1]
        refine ih (k + 1) F _ _ (by omega) (by omega) h5 (fun i hi => ?_)
        by_cases q : i < 42 ∨ (i < 57 ∧ (i - 42) % 3 < k)
        · exact Or.inl (Or.inl (Or.inl (Or.inl (Or.inl (hD i q)))))
        · by_cases q1 : i = 42 + k
          · exact Or.inl (Or.inl (Or.inl (Or.inl (Or.inr q1))))
          by_cases q2 : i = 45 + k
          · exact Or.inl (Or.inl (Or.inl (Or.inr q2)))
          by_cases q3 : i = 48 + k
          · exact Or.inl (Or.inl (Or.inr q3))
          by_cases q4 : i = 51 + k
          · exact Or.inl (Or.inr q4)
          · exact Or.inr (by omega)
      unfold f_Mo_moves_b406
      simp only [ec]
      rcases h01' k hk3 with e0 | e0
      · rw [e0] at hnext ⊢
        rw [if_neg (by decide)]
        refine ox_ck b5 (ox_ck v3 ?_)
        exact hnext
      · rw [e0] at hnext ⊢
        rw [if_pos rfl]
        refine ox_ck b5 (ox_ck v3 ?_)
        exact hnext
    have h73 : x2 = 0 → mI (uI s4 72 k r4) 73 k = 0 ∨ mI (uI s4 72 k r4) 73 k = 1 := by
      intro c
      have hs := mv_sr h4 (i := 54 + k) (by omega)
      have h9 := h01' k hk3
      rw [← hs] at h9
      have es : sr x2 m (54 + k) = (73, k) := by unfold sr; rw [if_pos c, kp_o (a := 73) (k := k) (by decide) hk3 (by omega)]
      rw [es] at h9
      exact h9
    by_cases z : mI (uI s4 72 k r4) 73 k = 0
    · rw [if_pos z]
      exact hlast 0 (fun _ => z.symm)
    · rw [if_neg z]
      exact hlast 1 (fun c => ((h73 c).resolve_left z).symm)
theorem m_186 (hm : m < 4) (hb : zl_B s0) (h01' : h01 x2 m s0) : ∀ (n k F : Nat) (s : Sg) (D : Nat → Prop), n < F → k + n = 8 → MV x2 m s0 s D → (∀ i, (i < 26 + k ∨ (34 ≤ i ∧ i < 34 + k)) → D i) → okx (fun _ s' => MV x2 m s0 s' (fun _ => True)) (f_Mo_moves_h186 F (nI m) x2 (nI (140 * m)) (nI k) s) := by
  intro n
  induction n with
  | zero =>
    intro k F s D hF hk h hD
    obtain ⟨F, rfl⟩ : ∃ f, F = f + 1 := ⟨F - 1, by omega⟩
    obtain rfl : k = 8 := by omega
    show okx _ (f_Mo_moves_b186 _ _ _ _ _ _)
    unfold f_Mo_moves_b186 f_Mo_moves_b251
    rw [if_pos (by decide)]
    exact m_254 hm hb h01' 3 0 zl_fl s D (zl_fl_lt (by decide)) (by decide) h (fun i hi => hD i (by omega))
  | succ n ih =>
    intro k F s D hF hk h hD
    obtain ⟨F, rfl⟩ : ∃ f, F = f + 1 := ⟨F - 1, by omega⟩
    have hk8 : k < 8 := by omega
    have e1 : nI k + 1 = nI (k + 1) := nI_add k 1
    have ec : (nI k).toNatClampNeg = k := nI_clamp (by omega)
    have v3 : vp_in (nI k) 16 := vp_in_nI (by omega) (by decide)
    have ey : ∀ c : Nat, (nI (140 * m) + nI c) + nI k = nI (140 * m + (c + k)) := fun c => by rw [nI_add, nI_add, show 140 * m + c + k = 140 * m + (c + k) by omega]
    have k1 : kp (26 + k) = (51, k) := by
      unfold kp
      rw [if_neg (by omega), if_neg (by omega), if_neg (by omega), if_neg (by omega), if_pos (by omega), show 26 + k - 26 = k by omega]
    have k2 : kp (34 + k) = (52, k) := by
      unfold kp
      rw [if_neg (by omega), if_neg (by omega), if_neg (by omega), if_neg (by omega), if_neg (by omega), if_pos (by omega), show 34 + k - 34 = k by omega]
    show okx _ (f_Mo_moves_b186 _ _ _ _ _ _)
    unfold f_Mo_moves_b186
    rw [if_neg (show ¬ (8 : Int32) ≤ nI k from nI_ge (b := 8) hk8 (by decide))]
    simp only [ec]
    refine ox_ck (h.b hb) (ox_ck v3 ?_)
    refine m_k1 hm hb h (i := 26 + k) (by omega) k1 (ey 26) (fun r1 s1 h1 b1 => ox_ck v3 ?_)
    refine ox_ck v3 ?_
    refine m_k1 hm hb h1 (i := 34 + k) (by omega) k2 (ey 34) (fun r2 s2 h2 b2 => ox_ck v3 ?_)
    rw [e1]
    refine ih (k + 1) F _ _ (by omega) (by omega) h2 (fun i hi => ?_)
    by_cases q : i < 26 + k ∨ (34 ≤ i ∧ i < 34 + k)
    · exact Or.inl (Or.inl (hD i q))
    · by_cases q1 : i = 26 + k
      · exact Or.inl (Or.inr q1)
      · exact Or.inr (by omega)
theorem m_144 (hm : m < 4) (hb : zl_B s0) (h01' : h01 x2 m s0) : ∀ (n k F : Nat) (s : Sg) (D : Nat → Prop), n < F → k + n = 16 → MV x2 m s0 s D → (∀ i, i < 10 + k → D i) → okx (fun _ s' => MV x2 m s0 s' (fun _ => True)) (f_Mo_moves_h144 F (nI m) x2 (nI (140 * m)) (nI k) s) := by
  intro n
  induction n with
  | zero =>
    intro k F s D hF hk h hD
    obtain ⟨F, rfl⟩ : ∃ f, F = f + 1 := ⟨F - 1, by omega⟩
    obtain rfl : k = 16 := by omega
    show okx _ (f_Mo_moves_b144 _ _ _ _ _ _)
    unfold f_Mo_moves_b144 f_Mo_moves_b183
    rw [if_pos (by decide)]
    exact m_186 hm hb h01' 8 0 zl_fl s D (zl_fl_lt (by decide)) (by decide) h (fun i hi => hD i (by omega))
  | succ n ih =>
    intro k F s D hF hk h hD
    obtain ⟨F, rfl⟩ : ∃ f, F = f + 1 := ⟨F - 1, by omega⟩
    have hk8 : k < 16 := by omega
    have e1 : nI k + 1 = nI (k + 1) := nI_add k 1
    have ec : (nI k).toNatClampNeg = k := nI_clamp (by omega)
    have v3 : vp_in (nI k) 32 := vp_in_nI (by omega) (by decide)
    have ey : ∀ c : Nat, (nI (140 * m) + nI c) + nI k = nI (140 * m + (c + k)) := fun c => by rw [nI_add, nI_add, show 140 * m + c + k = 140 * m + (c + k) by omega]
    have k1 : kp (10 + k) = (50, k) := by
      unfold kp
      rw [if_neg (by omega), if_neg (by omega), if_neg (by omega), if_pos (by omega), show 10 + k - 10 = k by omega]
    show okx _ (f_Mo_moves_b144 _ _ _ _ _ _)
    unfold f_Mo_moves_b144
    rw [if_neg (show ¬ (16 : Int32) ≤ nI k from nI_ge (b := 16) hk8 (by decide))]
    simp only [ec]
    refine ox_ck (h.b hb) (ox_ck v3 ?_)
    refine m_k1 hm hb h (i := 10 + k) (by omega) k1 (ey 10) (fun r1 s1 h1 b1 => ox_ck v3 ?_)
    rw [e1]
    refine ih (k + 1) F _ _ (by omega) (by omega) h1 (fun i hi => ?_)
    by_cases q : i < 10 + k
    · exact Or.inl (hD i q)
    · exact Or.inr (by omega)
theorem m_103 (hm : m < 4) (hb : zl_B s0) (h01' : h01 x2 m s0) : ∀ (n k F : Nat) (s : Sg) (D : Nat → Prop), n < F → k + n = 4 → MV x2 m s0 s D → (∀ i, i < 6 + k → D i) → okx (fun _ s' => MV x2 m s0 s' (fun _ => True)) (f_Mo_moves_h103 F (nI m) x2 (nI (140 * m)) (nI k) s) := by
  intro n
  induction n with
  | zero =>
    intro k F s D hF hk h hD
    obtain ⟨F, rfl⟩ : ∃ f, F = f + 1 := ⟨F - 1, by omega⟩
    obtain rfl : k = 4 := by omega
    show okx _ (f_Mo_moves_b103 _ _ _ _ _ _)
    unfold f_Mo_moves_b103 f_Mo_moves_b141
    rw [if_pos (by decide)]
    exact m_144 hm hb h01' 16 0 zl_fl s D (zl_fl_lt (by decide)) (by decide) h (fun i hi => hD i (by omega))
  | succ n ih =>
    intro k F s D hF hk h hD
    obtain ⟨F, rfl⟩ : ∃ f, F = f + 1 := ⟨F - 1, by omega⟩
    have hk8 : k < 4 := by omega
    have e1 : nI k + 1 = nI (k + 1) := nI_add k 1
    have ec : (nI k).toNatClampNeg = k := nI_clamp (by omega)
    have v3 : vp_in (nI k) 8 := vp_in_nI (by omega) (by decide)
    have ey : ∀ c : Nat, (nI (140 * m) + nI c) + nI k = nI (140 * m + (c + k)) := fun c => by rw [nI_add, nI_add, show 140 * m + c + k = 140 * m + (c + k) by omega]
    have k1 : kp (6 + k) = (49, k) := by
      unfold kp
      rw [if_neg (by omega), if_neg (by omega), if_pos (by omega), show 6 + k - 6 = k by omega]
    show okx _ (f_Mo_moves_b103 _ _ _ _ _ _)
    unfold f_Mo_moves_b103
    rw [if_neg (show ¬ (4 : Int32) ≤ nI k from nI_ge (b := 4) hk8 (by decide))]
    simp only [ec]
    refine ox_ck (h.b hb) (ox_ck v3 ?_)
    refine m_k1 hm hb h (i := 6 + k) (by omega) k1 (ey 6) (fun r1 s1 h1 b1 => ox_ck v3 ?_)
    rw [e1]
    refine ih (k + 1) F _ _ (by omega) (by omega) h1 (fun i hi => ?_)
    by_cases q : i < 6 + k
    · exact Or.inl (hD i q)
    · exact Or.inr (by omega)
theorem m_moves (hm : m < 4) (hb : zl_B s) (h01' : h01 x2 m s) : okx (fun _ s' => MV x2 m s s' (fun _ => True)) (f_Mo_moves (nI m) x2 s) := by
  have e0 : (140 : Int32) * nI m = nI (140 * m) := nI_mul 140 m
  have ey : ∀ c : Nat, nI (140 * m) + nI c = nI (140 * m + c) := fun c => nI_add _ c
  unfold f_Mo_moves
  rw [e0]
  refine ox_ck hb ?_
  refine m_k1 hm hb (MV.rf x2 m s) (i := 0) (by decide) rfl rfl (fun r0 s0 h0 b0 => ?_)
  refine m_k1 hm hb h0 (i := 1) (by decide) rfl (ey 1) (fun r1 s1 h1 b1 => ?_)
  refine m_k1 hm hb h1 (i := 2) (by decide) rfl (ey 2) (fun r2 s2 h2 b2 => ?_)
  refine m_k1 hm hb h2 (i := 3) (by decide) rfl (ey 3) (fun r3 s3 h3 b3 => ?_)
  refine m_k1 hm hb h3 (i := 4) (by decide) rfl (ey 4) (fun r4 s4 h4 b4 => ?_)
  refine m_k1 hm hb h4 (i := 5) (by decide) rfl (ey 5) (fun r5 s5 h5 b5 => ?_)
  refine m_103 hm hb h01' 4 0 zl_fl _ _ (zl_fl_lt (by decide)) (by decide) h5 (fun i hi => ?_)
  obtain rfl | rfl | rfl | rfl | rfl | rfl : i = 0 ∨ i = 1 ∨ i = 2 ∨ i = 3 ∨ i = 4 ∨ i = 5 := by omega
  · exact Or.inl (Or.inl (Or.inl (Or.inl (Or.inl (Or.inr rfl)))))
  · exact Or.inl (Or.inl (Or.inl (Or.inl (Or.inr rfl))))
  · exact Or.inl (Or.inl (Or.inl (Or.inr rfl)))
  · exact Or.inl (Or.inl (Or.inr rfl))
  · exact Or.inl (Or.inr rfl)
  · exact Or.inr rfl
end
