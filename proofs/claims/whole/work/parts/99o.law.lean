/-! the law -/
section
variable {L : Nat} {xs : Nat → Int32} {V : Vw} {s : Sg} {i : Nat} {P : Int32 → Sg → Prop}
/-- class and model stand alike at the beginning -/
theorem RC_start (h : Cn L xs 81 rr13 5 s) : RC (gC L xs 5) 0 s := by
  obtain ⟨h1, h2, h3, h4⟩ := h
  have z : ∀ a k, (4 ≤ a ∧ a ≠ 6 ∧ a ≠ 14 ∧ a ≠ 38 ∧ a ≠ 45 ∧ a ≠ 70) → gC L xs 5 a k = 0 := fun a k ha => gC_z (by omega) (by omega) (by omega) (by omega) (by omega) (by omega)
  have g : ∀ a, a < 81 → ∀ j, j < (zn_frl.getD a []).length → zn_FR a j = none ∨ lk rr13 a j = zn_FR a j := by decide +kernel
  have hG : zl_Gr s.2.2.1 := by
    intro a j b ha hj
    have hl : j < (zn_frl.getD a []).length := by
      refine Nat.lt_of_not_le fun hle => ?_
      unfold zn_FR at hj
      rw [if_pos ha, List.getD_eq_getElem?_getD, List.getElem?_eq_none hle] at hj
      cases hj
    rcases g a ha j hl with q | q
    · rw [q] at hj; cases hj
    · exact (h2 a j).trans (q.trans hj)
  have hb : zl_B s := ⟨by rw [h1]; decide, hG⟩
  have ep : pN (gC L xs 5) = 0 := by unfold pN; rw [z 46 10 (by decide)]; rfl
  have et : tN (gC L xs 5) = 0 := by unfold tN; rw [z 46 11 (by decide)]; rfl
  have ek : kN (gC L xs 5) = 0 := by unfold kN; rw [z 46 12 (by decide)]; rfl
  have o0 : ∀ m, is_n (0 : Int32) m := fun m => ⟨0, Nat.zero_le _, rfl⟩
  have hW : WV (gC L xs 5) := by
    refine ⟨⟨?_, by rw [ep]; decide⟩, ⟨?_, by rw [et]; decide⟩, ⟨?_, by rw [ek]; decide⟩, fun p hp => ?_, fun k hk => ?_, fun k hk => ?_, fun t ht => ?_, ?_, ?_, ?_⟩
    · rw [ep, z 46 10 (by decide)]; rfl
    · rw [et, z 46 11 (by decide)]; rfl
    · rw [ek, z 46 12 (by decide)]; rfl
    · rw [ep] at hp; exact absurd hp (Nat.not_lt_zero _)
    · rw [z 50 k (by decide)]; exact o0 _
    · rw [ek] at hk; exact absurd hk (Nat.not_lt_zero _)
    · rw [z 69 t (by decide), gC_70 t ht (by decide), z 71 t (by decide), z 72 t (by decide), z 73 t (by decide)]
      exact ⟨o0 _, ⟨1, by decide, rfl⟩, o0 _, o0 _, Or.inl rfl⟩
    · rw [z 46 45 (by decide)]; exact o0 _
    · rw [z 46 46 (by decide)]; exact o0 _
    · rw [z 46 47 (by decide)]; exact o0 _
  have hT : TV (gC L xs 5) (vT s 7) := by
    have v : ∀ j k, vT s 7 j k = gC L xs 5 (7 + j) k := fun j k => h3 (7 + j) k
    refine ⟨⟨?_, ?_, ?_, ?_, ?_, ?_⟩, fun p hp => ?_, fun k hk => ?_, fun l hl => ?_, fun t ht => ?_, fun l hl => ?_⟩
    · rw [v, z _ _ (by decide), z 46 10 (by decide)]
    · rw [v, z _ _ (by decide), z 46 11 (by decide)]
    · rw [v, z _ _ (by decide), z 46 12 (by decide)]
    · rw [v, z _ _ (by decide), z 46 46 (by decide)]
    · rw [v, z _ _ (by decide), z 46 47 (by decide)]
    · rw [v, z _ _ (by decide), z 46 45 (by decide)]
    · rw [ep] at hp; exact absurd hp (Nat.not_lt_zero _)
    · rw [v, z _ _ (by decide), z 50 k (by decide)]
    · rw [ek] at hl; exact absurd hl (Nat.not_lt_zero _)
    · rw [v, v, v, v, z (7 + 6) t (by decide), gC_14 t ht (by decide), z (7 + 9) t (by decide), z 69 t (by decide), gC_70 t ht (by decide), z 73 t (by decide)]
      exact ⟨rfl, rfl, Or.inl ⟨rfl, rfl⟩⟩
    · rw [ek] at hl; exact absurd hl (Nat.not_lt_zero _)
  have h65 : mI s 6 5 = 1 := (h3 6 5).trans (gC_65 (by decide))
  have h18 : ∀ q, mI s 18 q = 0 := fun q => (h3 18 q).trans (z 18 q (by decide))
  have hs0 : sOws (gC L xs 5) = 0 := by unfold sOws; rw [if_pos ep]
  refine ⟨⟨by rw [h1]; decide, hG, hW, fun a k _ => h3 a k, ?_⟩, ⟨⟨hb, WV_eqW hW kW_eq, TV_ask.mpr hT, ?_, Or.inl kW_39, ⟨10, by decide, kW_39⟩, fun k => (h3 1 k).trans rfl⟩, fun q _ q18 => ?_, ?_, fun q _ => ⟨0, h18 q, Nat.zero_le _⟩⟩, fun x hx => ?_, ?_, ⟨⟨?_, ?_⟩, fun k _ => ?_, fun k hk => ?_⟩, ⟨fun m hm => Or.inl ⟨z 76 m (by decide), ?_⟩, fun m m' a k1 k2 k3 k4 => ?_, 0, h1⟩, ⟨?_, fun k hk => ⟨?_, ?_⟩⟩, fun k => (h3 3 k).trans rfl⟩
  · rw [h4, z 46 53 (by decide)]; rfl
  · exact ((h3 6 7).trans (gC_67 (by decide))).trans (kW_39 : askW (gC L xs 5) 46 39 = 10).symm
  · rw [h18, h65] at q18
    exact absurd q18 (by decide)
  · rw [h65]; rfl
  · rw [hs0] at hx; exact absurd hx (Nat.not_lt_zero _)
  · unfold ageN
    rw [h65]
    decide
  · rw [h3, z 42 2 (by decide), z 46 1 (by decide)]
  · rw [z 46 1 (by decide)]; exact o0 _
  · rw [h3, z 43 k (by decide), z 47 k (by decide)]
  · rw [z 46 1 (by decide)] at hk
    exact absurd hk (Nat.not_lt_zero _)
  · rw [h2]
    have : m = 0 ∨ m = 1 ∨ m = 2 ∨ m = 3 := by omega
    rcases this with rfl | rfl | rfl | rfl <;> decide +kernel
  · exfalso
    rw [h2] at k4
    have e : lk rr13 41 m = none := by
      have : m = 0 ∨ m = 1 ∨ m = 2 ∨ m = 3 := by omega
      rcases this with rfl | rfl | rfl | rfl <;> decide +kernel
    rw [e] at k4
    cases k4
  · rw [h3, z 35 0 (by decide)]
  · rw [h3, z 33 k (by decide), z 50 _ (by decide)]
    by_cases c : k % 4 = 0
    · rw [if_pos c]
    · rw [if_neg c]
  · rw [z 50 _ (by decide)]; exact o0 _
theorem RC_later (h : RC V i s) : RC V (i + 1) s := ⟨h.1, h.2.1, h.2.2.1, by have := h.2.2.2.1; omega, h.2.2.2.2⟩
theorem okx_i {c : Prop} {_d : Decidable c} {a b : Option (Int32 × Sg)} (ha : c → okx P a) (hb : ¬ c → okx P b) : okx P (if c then a else b) := by
  by_cases h : c
  · rw [if_pos h]; exact ha h
  · rw [if_neg h]; exact hb h
theorem law_end (hL : L ≤ 3584) (i : Nat) (hi : i ≤ 4096) : (nI L - 7 < nI (7 * i)) ↔ L < 7 * i + 7 := by
  by_cases c : L < 7
  · have h7 : ∀ L, L < 7 → nI L - 7 < 0 := by decide
    refine ⟨fun _ => by omega, fun _ => Int32.lt_of_lt_of_le (h7 L c) (nI_le (a := 0) (Nat.zero_le _) (by omega))⟩
  · obtain ⟨m, rfl⟩ : ∃ m, L = 7 + m := ⟨L - 7, by omega⟩
    have e : nI (7 + m) - 7 = nI m := nI_sub 7 m
    rw [e, nI_ltI (by omega) (by omega)]
    omega
theorem law_h (hL : L ≤ 3584) : ∀ (k i F : Nat) (V : Vw) (s : Sg), i + k = 513 → k < F → RC V i s → SC L s → okx (fun (r : Int32) (_ : Sg) => r = 1) (f_La_law_h23 F (nI (7 * i)) s) := by
  intro k
  induction k with
  | zero =>
    intro i F V s hk hF h hs
    obtain ⟨F, rfl⟩ : ∃ g, F = g + 1 := ⟨F - 1, by omega⟩
    have hs9 : mI s 0 4000 = nI L := hs
    show okx _ (f_La_law_b23 (f_La_law_h23 F) (nI (7 * i)) s)
    unfold f_La_law_b23
    rw [hs9, f_ck_of (nI_pos (by omega)), if_pos ((law_end hL i (by omega)).mpr (by omega))]
    exact ⟨1, s, rfl, rfl⟩
  | succ k ih =>
    intro i F V s hk hF h hs
    obtain ⟨F, rfl⟩ : ∃ g, F = g + 1 := ⟨F - 1, by omega⟩
    have hs9 : mI s 0 4000 = nI L := hs
    show okx _ (f_La_law_b23 (f_La_law_h23 F) (nI (7 * i)) s)
    unfold f_La_law_b23
    rw [hs9, f_ck_of (nI_pos (by omega))]
    by_cases c : L < 7 * i + 7
    · rw [if_pos ((law_end hL i (by omega)).mpr c)]
      exact ⟨1, s, rfl, rfl⟩
    · have hi : 7 * i + 7 ≤ L := by omega
      have eL : (nI L).toNatClampNeg = L := nI_clamp (by omega)
      have hR : ∀ s2 V2, RC V2 (i + 1) s2 → SC L s2 → okx (fun (r : Int32) (_ : Sg) => r = 1) (f_La_law_h23 F (nI (7 * (i + 1))) s2) := fun s2 V2 r2 c2 => ih (i + 1) F V2 s2 (by omega) (by omega) r2 c2
      rw [if_neg (fun q => c ((law_end hL i (by omega)).mp q)), eL, f_ck_of (vp_in_nI (by omega) (by omega))]
      refine okx_i (fun _ => lc_feed _ hR h hs hi hL) (fun _ => ?_)
      refine okx_i (fun _ => lc_works _ hR h hs hi hL) (fun _ => ?_)
      refine okx_i (fun _ => lc_cost _ hR h hs hi hL) (fun _ => ?_)
      refine okx_i (fun _ => lc_worth _ hR h hs hi hL) (fun _ => ?_)
      refine okx_i (fun _ => lc_own _ hR h hs hi hL) (fun _ => ?_)
      refine okx_i (fun _ => lc_owner _ hR h hs hi hL) (fun _ => ?_)
      refine okx_i (fun _ => lc_later _ hR h hs hi hL) (fun _ => ?_)
      refine okx_i (fun _ => lc_chance _ hR h hs hi hL) (fun _ => ?_)
      refine okx_i (fun _ => lc_has _ hR h hs hi hL) (fun _ => ?_)
      refine okx_i (fun _ => lc_makes _ hR h hs hi hL) (fun _ => ?_)
      refine okx_i (fun _ => lc_bargain _ hR h hs hi hL) (fun _ => ?_)
      refine okx_i (fun _ => lc_share _ hR h hs hi hL) (fun _ => ?_)
      refine okx_i (fun _ => lc_would _ hR h hs hi hL) (fun _ => ?_)
      refine okx_i (fun _ => lc_isRest _ hR h hs hi hL) (fun _ => ?_)
      refine okx_i (fun _ => lc_rest _ hR h hs hi hL) (fun _ => ?_)
      refine okx_i (fun _ => lc_rests _ hR h hs hi hL) (fun _ => ?_)
      refine okx_i (fun _ => lc_good _ hR h hs hi hL) (fun _ => ?_)
      refine okx_i (fun _ => lc_best _ hR h hs hi hL) (fun _ => ?_)
      refine okx_i (fun _ => lc_lost _ hR h hs hi hL) (fun _ => ?_)
      refine okx_i (fun _ => lc_reached _ hR h hs hi hL) (fun _ => ?_)
      refine okx_i (fun _ => lc_first _ hR h hs hi hL) (fun _ => ?_)
      refine okx_i (fun _ => lc_gap _ hR h hs hi hL) (fun _ => ?_)
      refine okx_i (fun _ => lc_joint _ hR h hs hi hL) (fun _ => ?_)
      refine okx_i (fun _ => lc_apart _ hR h hs hi hL) (fun _ => ?_)
      refine okx_i (fun _ => lc_oneHand _ hR h hs hi hL) (fun _ => ?_)
      refine okx_i (fun _ => lc_written _ hR h hs hi hL) (fun _ => ?_)
      refine okx_i (fun _ => lc_writing _ hR h hs hi hL) (fun _ => ?_)
      refine okx_i (fun _ => lc_right _ hR h hs hi hL) (fun _ => ?_)
      refine okx_i (fun _ => lc_rightPrice _ hR h hs hi hL) (fun _ => ?_)
      refine okx_i (fun _ => lc_lender _ hR h hs hi hL) (fun _ => ?_)
      refine okx_i (fun _ => lc_hands _ hR h hs hi hL) (fun _ => ?_)
      refine okx_i (fun _ => lc_leaving _ hR h hs hi hL) (fun _ => ?_)
      refine okx_i (fun _ => lc_edge _ hR h hs hi hL) (fun _ => ?_)
      refine okx_i (fun _ => lc_mark _ hR h hs hi hL) (fun _ => ?_)
      refine okx_i (fun _ => lc_count _ hR h hs hi hL) (fun _ => ?_)
      unfold f_La_law_b1966
      have c7 : nI (7 * i) + 7 = nI (7 * (i + 1)) := nI_add (7 * i) 7
      rw [c7]
      exact hR s V (RC_later h) hs
/-- on every script the law answers 1 -/
theorem law_all (L : Nat) (xs : Nat → Int32) (hL : L ≤ 3584) : okx (fun (r : Int32) (_ : Sg) => r = 1) (f_La_law (zs_0 L xs)) := by
  obtain ⟨s, e, c⟩ := c_law L xs
  rw [e]
  have hs : SC L s := (c.2.2.1 0 4000).trans rfl
  exact law_h hL 513 0 zl_fl _ s rfl (by rw [zl_4096]; omega) (RC_start c) hs
end
