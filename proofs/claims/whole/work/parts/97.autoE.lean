/-! works: the model's walk through a sum -/
section
variable {s s' s1 s2 : Sg} {T : Nat → Nat} {n p c d d' : Nat} {e : Nm} {τ : Tok}
/-- the depth behind a part: of not nothing stays open -/
def pdp (s : Sg) : Nat → Nat
  | 0 => 0
  | d + 1 => if mI s 56 (d + 1) = 1 then pdp s d else d + 1
theorem pdp_cg : ∀ {d : Nat}, (∀ k, k ≤ d → mI s' 56 k = mI s 56 k) → pdp s' d = pdp s d := by
  intro d
  induction d with
  | zero => intro _; rfl
  | succ d ih =>
    intro h
    unfold pdp
    rw [h (d + 1) (Nat.le_refl _), ih (fun k hk => h k (by omega))]
theorem m_pop1 (R11 : Int32 → Int32 → Sg → Option (Int32 × Sg)) (hb : zl_B s) (x2 : Int32) : ∀ (d F : Nat), d < 7 → d < F → f_Mo_reads_h190 R11 F (nI d) x2 s = f_Mo_reads_b210 R11 (nI (pdp s d)) x2 s := by
  intro d
  induction d with
  | zero =>
    intro F _ hF
    obtain ⟨F, rfl⟩ : ∃ f, F = f + 1 := ⟨F - 1, by omega⟩
    show f_Mo_reads_b190 _ _ _ _ _ = _
    unfold f_Mo_reads_b190
    rw [if_pos (by decide)]
    rfl
  | succ d ih =>
    intro F hd hF
    obtain ⟨F, rfl⟩ : ∃ f, F = f + 1 := ⟨F - 1, by omega⟩
    show f_Mo_reads_b190 _ _ _ _ _ = _
    unfold f_Mo_reads_b190 pdp
    rw [if_neg (nI_nle (by omega) (by omega)), f_ck_of hb, f_ck_of (vp_in_nI hd (by decide)), nI_clamp (by omega)]
    by_cases q : mI s 56 (d + 1) = 1
    · rw [if_pos q, if_pos q, pk_m1]
      exact ih F (by omega) (by omega)
    · rw [if_neg q, if_neg q]
theorem m_pop2 (R11 : Int32 → Int32 → Sg → Option (Int32 × Sg)) (hb : zl_B s) (x2 : Int32) : ∀ (d F : Nat), d < 7 → d < F → f_Mo_reads_h417 R11 F (nI d) x2 s = f_Mo_reads_b463 R11 (nI (pdp s d)) x2 s := by
  intro d
  induction d with
  | zero =>
    intro F _ hF
    obtain ⟨F, rfl⟩ : ∃ f, F = f + 1 := ⟨F - 1, by omega⟩
    show f_Mo_reads_b417 _ _ _ _ _ = _
    unfold f_Mo_reads_b417
    rw [if_pos (by decide)]
    rfl
  | succ d ih =>
    intro F hd hF
    obtain ⟨F, rfl⟩ : ∃ f, F = f + 1 := ⟨F - 1, by omega⟩
    show f_Mo_reads_b417 _ _ _ _ _ = _
    unfold f_Mo_reads_b417 pdp
    rw [if_neg (nI_nle (by omega) (by omega)), f_ck_of hb, f_ck_of (vp_in_nI hd (by decide)), nI_clamp (by omega)]
    by_cases q : mI s 56 (d + 1) = 1
    · rw [if_pos q, if_pos q, pk_m1]
      exact ih F (by omega) (by omega)
    · rw [if_neg q, if_neg q]
/-- what a sum's reading comes to, from the depth d on -/
def mO (T : Nat → Nat) (n : Nat) (e : Nm) (d d' c dd : Nat) (x2 : Int32) (s0 : Sg) (X : Tok → Sg → Prop) (R : Rsl) (F : Nat) (s1 : Sg) : Prop := match R with
  | .error z => ∃ s', f_Mo_reads_h11 F (nI d) x2 s1 = some (0, s') ∧ FR (mE d d' c) nBx s0 s' ∧ mI s' 46 9 = nI z
  | .ok r => ∃ F' s', n + 2 ≤ F' + r.2.st ∧ f_Mo_reads_h11 F (nI d) x2 s1 = f_Mo_reads_h11 F' (nI dd) 0 s' ∧ FR (mE d d' c) nBx s0 s' ∧ ME T n e (c + r.1.2.1.length) r.2 s' ∧ HC s' 55 (1000 + c) r.1.2.1 ∧ X r.2 s'
/-- a sign or word between two sums -/
theorem m_op (h : ME T n e c τ s) (ht : TG T n τ) {l : Nat} (hl : l < 4) (hv : lev τ.k = l) (hc : c ≤ τ.st) (hd : d < 7) (h57 : l = 1 → mI s 57 d = 0) (F : Nat) :
    ∃ s', f_Mo_reads_h11 (F + 1) (nI d) 0 s = f_Mo_reads_h11 F (nI d) 1 s' ∧ FR (mE d (if l ≤ 1 then d else d + 1) c) nBx s s' ∧ ME T n e (c + 1) (tkn T n τ.en) s' ∧ mI s' 55 (1000 + c) = nI (mop τ.k) ∧ (l = 0 → mI s' 57 d = 0) ∧ (l = 1 → mI s' 57 d = 1) := by
  have hb := h.1.b
  have hn := h.1.2.1
  have hk0 := lev_k hl hv
  have hc2 : c < 1000 := by
    obtain ⟨p, ht⟩ := ht
    have := ht.2.2.2.1 hk0
    have := ht.2.2.1
    omega
  have S43 : f_Mo_isSign 43 s = some (if τ.k = 43 then 1 else 0, s) := me_sign h ht (j := 43) (by decide)
  have S45 : f_Mo_isSign 45 s = some (if τ.k = 45 then 1 else 0, s) := me_sign h ht (j := 45) (by decide)
  have S42 : f_Mo_isSign 42 s = some (if τ.k = 42 then 1 else 0, s) := me_sign h ht (j := 42) (by decide)
  have S60 : f_Mo_isSign 60 s = some (if τ.k = 60 then 1 else 0, s) := me_sign h ht (j := 60) (by decide)
  have S61 : f_Mo_isSign 61 s = some (if τ.k = 61 then 1 else 0, s) := me_sign h ht (j := 61) (by decide)
  have hsplit : (τ.k = 10 ∧ l = 0) ∨ (τ.k = 11 ∧ l = 0) ∨ (τ.k = 42 ∧ l = 3) ∨ (τ.k = 43 ∧ l = 2) ∨ (τ.k = 45 ∧ l = 2) ∨ (τ.k = 60 ∧ l = 1) ∨ (τ.k = 61 ∧ l = 1) := by
    unfold lev at hv
    repeat' split at hv
    all_goals omega
  -- the code, and the next token
  have hput : ∀ x : Nat, ∃ s2 s3, f_Mo_puts (nI x) s = some ((), s2) ∧ FR (mE d (d + 1) c) nBx s s2 ∧ ME T n e (c + 1) τ s2 ∧ mI s2 55 (1000 + c) = nI x ∧ (∀ (v : Int32), ∃ s3, f_Mo_nextToken (uI s2 57 d v) = some ((), s3) ∧ FR (mE d d c) nBx s s3 ∧ ME T n e (c + 1) (tkn T n τ.en) s3 ∧ mI s3 55 (1000 + c) = nI x ∧ mI s3 57 d = v) ∧ f_Mo_nextToken s2 = some ((), s3) ∧ FR (mE d (d + 1) c) nBx s s3 ∧ ME T n e (c + 1) (tkn T n τ.en) s3 ∧ mI s3 55 (1000 + c) = nI x := by
    intro x
    obtain ⟨s2, e2, f2, h2, p2, -⟩ := me_puts h hc2 d (d + 1) x
    obtain ⟨s3, e3, f3, h3⟩ := me_next h2 ht
    refine ⟨s2, s3, e2, f2, h2, p2, fun v => ?_, e3, f2.tr (fr_nA f3 _ _ _), h3, (f3.2.1 55 _ (by unfold nAx; omega)).trans p2⟩
    have f4 : FR (mE d d (c + 1)) nBx s2 (uI s2 57 d v) := fr_uI s2 _ (Or.inr (Or.inr (Or.inr ⟨rfl, Nat.le_refl _⟩)))
    have h4 : ME T n e (c + 1) τ (uI s2 57 d v) := ⟨h2.1.ee f4, h2.2.1.ee f4, ⟨h2.2.2.1.1, h2.2.2.1.2.1, h2.2.2.1.2.2.1, h2.2.2.1.2.2.2.1, h2.2.2.1.2.2.2.2⟩, h2.2.2.2⟩
    obtain ⟨s5, e5, f5, h5⟩ := me_next h4 ht
    refine ⟨s5, e5, ((fr_mE f2 (Nat.le_refl _) (by omega) (Nat.le_refl _)).tr (fr_mE f4 (Nat.le_refl _) (Nat.le_refl _) (by omega))).tr (fr_nA f5 _ _ _), h5, ?_, ?_⟩
    · rw [f5.2.1 55 _ (by unfold nAx; omega), mI_ne _ _ (by omega)]; exact p2
    · rw [f5.2.1 57 d (by unfold nAx; omega)]; exact mI_at _ _ _ _
  show ∃ s', f_Mo_reads_b11 (f_Mo_reads_h11 F) (nI d) 0 s = _ ∧ _
  unfold f_Mo_reads_b11
  rw [if_pos rfl, f_ck_of hb, f_bd_of S43]
  have h275 : ∀ x : Nat, l ≠ 0 → l ≠ 1 → mop τ.k = x → ∃ s', f_Mo_reads_b275 (f_Mo_reads_h11 F) (nI d) (nI x) s = f_Mo_reads_h11 F (nI d) 1 s' ∧ FR (mE d (if l ≤ 1 then d else d + 1) c) nBx s s' ∧ ME T n e (c + 1) (tkn T n τ.en) s' ∧ mI s' 55 (1000 + c) = nI (mop τ.k) ∧ (l = 0 → mI s' 57 d = 0) ∧ (l = 1 → mI s' 57 d = 1) := by
    intro x hl0 hl1 hx
    obtain ⟨s2, s3, e2, f2, h2, p2, -, e3, f3, h3, p3⟩ := hput x
    refine ⟨s3, ?_, by rw [if_neg (by omega)]; exact f3, h3, by rw [hx]; exact p3, fun q => absurd q hl0, fun q => absurd q hl1⟩
    unfold f_Mo_reads_b275 f_Mo_reads_b463
    rw [f_ck_of hb, f_bd_of e2, f_ck_of h2.1.b, f_bd_of e3]
  by_cases c43 : τ.k = 43
  · rw [if_pos c43, if_neg (show ¬ (1 : Int32) = 0 by decide)]
    unfold f_Mo_reads_b244
    rw [f_ck_of hb, f_bd_of S43, if_pos c43, if_neg (show ¬ (1 : Int32) = 0 by decide)]
    exact h275 20 (by omega) (by omega) (by rw [c43]; rfl)
  rw [if_neg c43, if_pos rfl, f_ck_of hb, f_bd_of (S45)]
  by_cases c45 : τ.k = 45
  · rw [if_pos c45, if_neg (show ¬ (1 : Int32) = 0 by decide)]
    unfold f_Mo_reads_b244
    rw [f_ck_of hb, f_bd_of S43, if_neg c43, if_pos rfl, f_ck_of hb, f_bd_of (S45), if_pos c45, if_neg (show ¬ (1 : Int32) = 0 by decide)]
    exact h275 21 (by omega) (by omega) (by rw [c45]; rfl)
  rw [if_neg c45, if_pos rfl, f_ck_of hb, f_bd_of (S42)]
  by_cases c42 : τ.k = 42
  · rw [if_pos c42, if_neg (show ¬ (1 : Int32) = 0 by decide)]
    unfold f_Mo_reads_b244
    rw [f_ck_of hb, f_bd_of S43, if_neg c43, if_pos rfl, f_ck_of hb, f_bd_of (S45), if_neg c45, if_pos rfl]
    exact h275 22 (by omega) (by omega) (by rw [c42]; rfl)
  rw [if_neg c42, if_pos rfl, f_ck_of hb, f_bd_of (S60)]
  have h327 : ∀ x : Nat, l = 1 → mop τ.k = x → ∃ s', f_Mo_reads_b327 (f_Mo_reads_h11 F) (nI d) (nI x) s = f_Mo_reads_h11 F (nI d) 1 s' ∧ FR (mE d (if l ≤ 1 then d else d + 1) c) nBx s s' ∧ ME T n e (c + 1) (tkn T n τ.en) s' ∧ mI s' 55 (1000 + c) = nI (mop τ.k) ∧ (l = 0 → mI s' 57 d = 0) ∧ (l = 1 → mI s' 57 d = 1) := by
    intro x hl1 hx
    obtain ⟨s2, -, e2, f2, h2, p2, hv2, -⟩ := hput x
    obtain ⟨s3, e3, f3, h3, p3, q3⟩ := hv2 1
    refine ⟨s3, ?_, by rw [if_pos (by omega)]; exact f3, h3, by rw [hx]; exact p3, fun q => absurd q (by omega), fun _ => q3⟩
    unfold f_Mo_reads_b327 f_Mo_reads_b463
    rw [f_ck_of hb, f_bd_of e2, f_ck_of h2.1.b, f_ck_of (vp_in_nI hd (by decide)), nI_clamp (by omega)]
    refine (f_ck_of h2.1.b).trans ?_
    exact (f_bd_of e3).trans rfl
  by_cases c60 : τ.k = 60
  · rw [if_pos c60, if_neg (show ¬ (1 : Int32) = 0 by decide)]
    unfold f_Mo_reads_b301
    rw [f_ck_of hb, f_ck_of (vp_in_nI hd (by decide)), nI_clamp (by omega), if_pos (h57 (by omega)), f_bd_of (S60), if_pos c60, if_neg (show ¬ (1 : Int32) = 0 by decide)]
    exact h327 24 (by omega) (by rw [c60]; rfl)
  rw [if_neg c60, if_pos rfl, f_ck_of hb, f_bd_of (S61)]
  by_cases c61 : τ.k = 61
  · rw [if_pos c61, if_neg (show ¬ (1 : Int32) = 0 by decide)]
    unfold f_Mo_reads_b301
    rw [f_ck_of hb, f_ck_of (vp_in_nI hd (by decide)), nI_clamp (by omega), if_pos (h57 (by omega)), f_bd_of (S60), if_neg c60, if_pos rfl]
    exact h327 25 (by omega) (by rw [c61]; rfl)
  rw [if_neg c61, if_pos rfl]
  have hl0 : l = 0 := by omega
  have W10 := me_word h ht wk_10 (kw := 10) (fun a => kwd_10) (by decide)
  have W11 := me_word h ht wk_11 (kw := 11) (fun a => kwd_11) (by decide)
  have h380 : ∀ x : Nat, mop τ.k = x → ∃ s', f_Mo_reads_b380 (f_Mo_reads_h11 F) (nI d) (nI x) s = f_Mo_reads_h11 F (nI d) 1 s' ∧ FR (mE d (if l ≤ 1 then d else d + 1) c) nBx s s' ∧ ME T n e (c + 1) (tkn T n τ.en) s' ∧ mI s' 55 (1000 + c) = nI (mop τ.k) ∧ (l = 0 → mI s' 57 d = 0) ∧ (l = 1 → mI s' 57 d = 1) := by
    intro x hx
    obtain ⟨s2, -, e2, f2, h2, p2, hv2, -⟩ := hput x
    obtain ⟨s3, e3, f3, h3, p3, q3⟩ := hv2 0
    refine ⟨s3, ?_, by rw [if_pos (by omega)]; exact f3, h3, by rw [hx]; exact p3, fun _ => q3, fun q => absurd q (by omega)⟩
    unfold f_Mo_reads_b380 f_Mo_reads_b463
    rw [f_ck_of hb, f_bd_of e2, f_ck_of h2.1.b, f_ck_of (vp_in_nI hd (by decide)), nI_clamp (by omega)]
    refine (f_ck_of h2.1.b).trans ?_
    exact (f_bd_of e3).trans rfl
  unfold f_Mo_reads_b342
  have W10' : f_Mo_isWord 1111 s = some (if τ.k = 10 then 1 else 0, s) := W10
  have W11' : f_Mo_isWord 423 s = some (if τ.k = 11 then 1 else 0, s) := W11
  rw [f_ck_of hb, f_bd_of W10']
  by_cases c10 : τ.k = 10
  · rw [if_pos c10, if_neg (show ¬ (1 : Int32) = 0 by decide)]
    unfold f_Mo_reads_b362
    rw [f_ck_of hb, f_bd_of W10', if_pos c10, if_neg (show ¬ (1 : Int32) = 0 by decide)]
    exact h380 26 (by rw [c10]; rfl)
  · have c11 : τ.k = 11 := by omega
    rw [if_neg c10, if_pos rfl, f_ck_of hb, f_bd_of W11', if_pos c11, if_neg (show ¬ (1 : Int32) = 0 by decide)]
    unfold f_Mo_reads_b362
    rw [f_ck_of hb, f_bd_of W10', if_neg c10, if_pos rfl]
    exact h380 27 (by rw [c11]; rfl)
/-- no sign or word between two sums: what is left is b342 -/
theorem m_noop (h : ME T n e c τ s) (ht : TG T n τ) (hv : lev τ.k ≠ 2 ∧ lev τ.k ≠ 3) (hd : d < 7) (h1 : lev τ.k = 1 → ¬ mI s 57 d = 0) (F : Nat) : f_Mo_reads_h11 (F + 1) (nI d) 0 s = f_Mo_reads_b342 (f_Mo_reads_h11 F) (nI d) 0 s := by
  have hb := h.1.b
  have S43 : f_Mo_isSign 43 s = some (if τ.k = 43 then 1 else 0, s) := me_sign h ht (j := 43) (by decide)
  have S45 : f_Mo_isSign 45 s = some (if τ.k = 45 then 1 else 0, s) := me_sign h ht (j := 45) (by decide)
  have S42 : f_Mo_isSign 42 s = some (if τ.k = 42 then 1 else 0, s) := me_sign h ht (j := 42) (by decide)
  have S60 : f_Mo_isSign 60 s = some (if τ.k = 60 then 1 else 0, s) := me_sign h ht (j := 60) (by decide)
  have S61 : f_Mo_isSign 61 s = some (if τ.k = 61 then 1 else 0, s) := me_sign h ht (j := 61) (by decide)
  have c43 : ¬ τ.k = 43 := fun q => hv.1 (by rw [q]; rfl)
  have c45 : ¬ τ.k = 45 := fun q => hv.1 (by rw [q]; rfl)
  have c42 : ¬ τ.k = 42 := fun q => hv.2 (by rw [q]; rfl)
  show f_Mo_reads_b11 (f_Mo_reads_h11 F) (nI d) 0 s = _
  unfold f_Mo_reads_b11
  rw [if_pos rfl, f_ck_of hb, f_bd_of S43, if_neg c43, if_pos rfl, f_ck_of hb, f_bd_of (S45), if_neg c45, if_pos rfl, f_ck_of hb, f_bd_of (S42), if_neg c42, if_pos rfl, f_ck_of hb, f_bd_of (S60)]
  have h301 : (τ.k = 60 ∨ τ.k = 61) → f_Mo_reads_b301 (f_Mo_reads_h11 F) (nI d) 0 s = f_Mo_reads_b342 (f_Mo_reads_h11 F) (nI d) 0 s := fun q => by
    have hl : lev τ.k = 1 := by rcases q with q | q <;> rw [q] <;> rfl
    unfold f_Mo_reads_b301
    rw [f_ck_of hb, f_ck_of (vp_in_nI hd (by decide)), nI_clamp (by omega), if_neg (h1 hl)]
  by_cases c60 : τ.k = 60
  · rw [if_pos c60, if_neg (show ¬ (1 : Int32) = 0 by decide)]
    exact h301 (Or.inl c60)
  · rw [if_neg c60, if_pos rfl, f_ck_of hb, f_bd_of (S61)]
    by_cases c61 : τ.k = 61
    · rw [if_pos c61, if_neg (show ¬ (1 : Int32) = 0 by decide)]
      exact h301 (Or.inr c61)
    · rw [if_neg c61, if_pos rfl]
/-- .. and how it ends -/
theorem m_end (h : ME T n e c τ s) (ht : TG T n τ) (hv : lev τ.k ≠ 0 ∧ lev τ.k ≠ 2 ∧ lev τ.k ≠ 3) (hd : d < 7) (h1 : lev τ.k = 1 → ¬ mI s 57 d = 0) (hc : c ≤ τ.st) (F : Nat) (d' : Nat) :
    (τ.k = 41 ∧ 0 < d ∧ ∃ s', f_Mo_reads_h11 (F + 1) (nI d) 0 s = f_Mo_reads_h11 F (nI (pdp s (d - 1))) 0 s' ∧ FR (mE d d' c) nBx s s' ∧ ME T n e (c + 1) (tkn T n τ.en) s' ∧ mI s' 55 (1000 + c) = nI 29) ∨
    (τ.k = 8 ∧ d = 0 ∧ ∃ s', f_Mo_reads_h11 (F + 1) (nI d) 0 s = some (1, s') ∧ FR (mE d d' c) nBx s s' ∧ ME T n e c (tkn T n τ.en) s') ∨
    (¬ (τ.k = 41 ∧ 0 < d) ∧ ¬ (τ.k = 8 ∧ d = 0) ∧ ∃ s', f_Mo_reads_h11 (F + 1) (nI d) 0 s = some (0, s') ∧ FR (mE d d' c) nBx s s' ∧ mI s' 46 9 = nI (1 + 16 * τ.st)) := by
  have hb := h.1.b
  have hn := h.1.2.1
  rw [m_noop h ht hv.2 hd h1 F]
  have c10 : ¬ τ.k = 10 := fun q => hv.1 (by rw [q]; rfl)
  have c11 : ¬ τ.k = 11 := fun q => hv.1 (by rw [q]; rfl)
  have W10 : f_Mo_isWord 1111 s = some (if τ.k = 10 then 1 else 0, s) := me_word h ht wk_10 (kw := 10) (fun a => kwd_10) (by decide)
  have W11 : f_Mo_isWord 423 s = some (if τ.k = 11 then 1 else 0, s) := me_word h ht wk_11 (kw := 11) (fun a => kwd_11) (by decide)
  have W8 : f_Mo_isWord 459818 s = some (if τ.k = 8 then 1 else 0, s) := me_word h ht wk_8 (kw := 8) (fun a => kwd_8) (by decide)
  have S41 : f_Mo_isSign 41 s = some (if τ.k = 41 then 1 else 0, s) := me_sign h ht (j := 41) (by decide)
  obtain ⟨s2, e2, f2, z2⟩ := me_failN h d d' 1
  unfold f_Mo_reads_b342
  rw [f_ck_of hb, f_bd_of W10, if_neg c10, if_pos rfl, f_ck_of hb, f_bd_of W11, if_neg c11, if_pos rfl, f_ck_of hb, f_bd_of S41]
  by_cases c41 : τ.k = 41
  · rw [if_pos c41, if_neg (show ¬ (1 : Int32) = 0 by decide)]
    by_cases d0 : d = 0
    · right; right
      refine ⟨fun q => by omega, fun q => by omega, s2, ?_, f2, z2⟩
      rw [if_pos (show nI d ≤ 0 by rw [d0]; decide)]
      unfold f_Mo_reads_b437 f_Mo_reads_b457
      rw [if_pos (show nI d = 0 by rw [d0]; rfl), f_ck_of hb, f_bd_of W8, if_neg (show ¬ τ.k = 8 by omega), if_pos rfl, f_ck_of hb]
      exact e2
    · left
      refine ⟨c41, by omega, ?_⟩
      have hc2 : c < 1000 := by
        obtain ⟨p, ht⟩ := ht
        have := ht.2.2.2.1 (by omega)
        have := ht.2.2.1
        omega
      obtain ⟨s2, e2, f2, h2, p2, g2⟩ := me_puts h hc2 d d' 29
      obtain ⟨s3, e3, f3, h3⟩ := me_next h2 ht
      refine ⟨s3, ?_, f2.tr (fr_nA f3 _ _ _), h3, (f3.2.1 55 _ (by unfold nAx; omega)).trans p2⟩
      have ed : nI d + (-1) = nI (d - 1) := by
        obtain ⟨q, rfl⟩ : ∃ q, d = q + 1 := ⟨d - 1, by omega⟩
        exact pk_m1 q
      rw [if_neg (nI_nle (by omega) (by omega)), f_ck_of hb]
      refine (f_bd_of (show f_Mo_puts 29 s = some ((), s2) from e2)).trans ?_
      rw [ed, m_pop2 _ h2.1.b 0 (d - 1) zl_fl (by omega) (by show d - 1 < 4096; omega), pdp_cg (s := s) (fun k hk => g2 56 k (by decide) (by decide))]
      unfold f_Mo_reads_b463
      rw [f_ck_of h2.1.b, f_bd_of e3]
  · rw [if_neg c41, if_pos rfl]
    unfold f_Mo_reads_b437 f_Mo_reads_b457
    by_cases d0 : d = 0
    · rw [if_pos (show nI d = 0 by rw [d0]; rfl), f_ck_of hb, f_bd_of W8]
      by_cases c8 : τ.k = 8
      · right; left
        obtain ⟨s3, e3, f3, h3⟩ := me_next h ht
        refine ⟨c8, d0, s3, ?_, fr_nA f3 _ _ _, h3⟩
        rw [if_pos c8, if_neg (show ¬ (1 : Int32) = 0 by decide), f_ck_of hb, f_bd_of e3]
      · right; right
        refine ⟨fun q => c41 q.1, fun q => c8 q.1, s2, ?_, f2, z2⟩
        rw [if_neg c8, if_pos rfl, f_ck_of hb]
        exact e2
    · right; right
      refine ⟨fun q => c41 q.1, fun q => d0 q.2, s2, ?_, f2, z2⟩
      rw [if_neg (show ¬ nI d = 0 from nI_ne0 (by omega) (by omega)), f_ck_of hb]
      exact e2
end
