section
variable {f0 f1 f2 f3 f4 : Int32} {c l fi se st ru tx en ws wl cn : Nat → Int32}
theorem lx_aft6 {post : Int32 → Prop} {x1 : Int32} {t s lo : Nat} (ht : t < 40) (hs : s ≤ 30)
    (hp : ∀ v, (∀ j, j < 32 → (bt v j = true ↔ ∃ k, lo ≤ k ∧ k ≤ s ∧ bt x1 k = true ∧ bt (en (t * 31 + k)) j = true)) → post v) :
    ∀ d i x5, lo ≤ i → i + d = s + 1 → (∀ j, j < 32 → (bt x5 j = true ↔ ∃ k, lo ≤ k ∧ k < i ∧ bt x1 k = true ∧ bt (en (t * 31 + k)) j = true)) →
      wX_endsAfter_6 post x1 (nI t) (nI s) f0 f1 f2 f3 f4 c l fi se st ru tx en ws wl cn (d + 1) x5 (nI i) := by
  intro d
  induction d with
  | zero =>
    intro i x5 hl hi h5
    refine br_t (nI_lt (by omega) (by omega)) (hp _ fun j hj => ?_)
    rw [h5 j hj]
    exact ⟨fun ⟨k, a, b, z⟩ => ⟨k, a, by omega, z⟩, fun ⟨k, a, b, z⟩ => ⟨k, a, by omega, z⟩⟩
  | succ d ih =>
    intro i x5 hl hi h5
    refine br_f (nI_nlt (by omega) (by omega)) ?_
    by_cases hb : bt x1 i = true
    · refine br_t ((lx_bit x1 (by omega)).mpr hb) ?_
      rw [lx_ix, nI_clamp (by omega)]
      refine ⟨vp_in_nI (by omega) (by omega), ?_⟩
      refine nm_e (nm_r (nI_1 i) (ih (i + 1) _ (by omega) (by omega) fun j hj => ?_))
      rw [b_or, Bool.or_eq_true, h5 j hj]
      constructor
      · rintro (⟨k, a, b, z⟩ | z)
        · exact ⟨k, a, by omega, z⟩
        · exact ⟨i, hl, by omega, hb, z⟩
      · rintro ⟨k, a, b, z1, z2⟩
        by_cases hk : k = i
        · subst hk; exact Or.inr z2
        · exact Or.inl ⟨k, a, by omega, z1, z2⟩
    · refine br_f (fun h => hb ((lx_bit x1 (by omega)).mp h)) ?_
      refine nm_r (nI_1 i) (ih (i + 1) _ (by omega) (by omega) fun j hj => ?_)
      rw [h5 j hj]
      constructor
      · rintro ⟨k, a, b, z⟩
        exact ⟨k, a, by omega, z⟩
      · rintro ⟨k, a, b, z1, z2⟩
        by_cases hk : k = i
        · subst hk; exact absurd z1 hb
        · exact ⟨k, a, by omega, z1, z2⟩
theorem lx_aft {post : Int32 → Prop} {x1 : Int32} {t s lo : Nat} (ht : t < 40) (hs : s ≤ 30) (hlo : lo ≤ s + 1)
    (hp : ∀ v, (∀ j, j < 32 → (bt v j = true ↔ ∃ k, lo ≤ k ∧ k ≤ s ∧ bt x1 k = true ∧ bt (en (t * 31 + k)) j = true)) → post v) :
    wpX_endsAfter post (f0, f1, f2, f3, f4, c, l, fi, se, st, ru, tx, en, ws, wl, cn) x1 (nI t) (nI lo) (nI s) := by
  refine ⟨s + 1 - lo + 1, lx_aft6 ht hs hp (s + 1 - lo) lo 0 (by omega) (by omega) fun j hj => ?_⟩
  rw [b_0]
  exact ⟨(fun h => nomatch h), fun ⟨k, a, b, _⟩ => by omega⟩
theorem lx_eo_text {post : Int32 → Prop} {C P Q : Nat → Nat} {e : Nat → Nat → Prop} {t i s : Nat} (ht : t < 40) (hi : i ≤ s) (hs : s ≤ 30) (hsN : s ≤ 30)
    (N : lx_NX c fi se C P Q t) (hD : lx_DX (lx_M C P Q e s) en s t (i + 1)) (he : ∀ i, i < s → (tx i = l t ↔ e t i))
    (hp : ∀ v, (∀ j, j < 32 → (bt v j = true ↔ lx_M C P Q e s t i j)) → post v) :
    wpX_endsOf__text post (f0, f1, f2, f3, f4, c, l, fi, se, st, ru, tx, en, ws, wl, cn) (nI t) (nI i) (nI s) := by
  obtain ⟨hc, hc8, hf, hP, h34, h56⟩ := N
  unfold wpX_endsOf__text
  dsimp only
  rw [nI_clamp (show t < 2 ^ 31 by omega), hf, lx_ix, nI_clamp (show P t * 31 + i < 2 ^ 31 by omega)]
  refine ⟨vp_in_nI ht (by omega), vp_in_nI (by omega) (by omega), ?_⟩
  intro x5 hx5
  refine ⟨vp_in_nI ht (by omega), ?_⟩
  refine nm_r hc ?_
  have hcs : C t = 0 ∨ C t = 1 ∨ C t = 2 ∨ C t = 3 ∨ C t = 4 ∨ C t = 5 ∨ C t = 6 ∨ C t = 7 := by omega
  rcases hcs with h | h | h | h | h | h | h | h
  · rw [h]
    refine br_f (by decide) (br_f (by decide) (br_t (by decide) ?_))
    by_cases hsi : s ≤ i
    · refine br_t (nI_le hsi (by omega)) (hp _ fun j hj => ?_)
      rw [lx_M0 h, b_0]
      exact ⟨(fun z => nomatch z), fun z => by omega⟩
    · refine br_f (nI_ge (by omega) (by omega)) ⟨vp_in_nI (by omega) (by omega), vp_in_nI ht (by omega), ?_⟩
      rw [nI_clamp (show i < 2 ^ 31 by omega), nI_1]
      refine br_c (fun z => hp _ fun j hj => ?_) (fun z => hp _ fun j hj => ?_)
      · rw [lx_M0 h, lx_shl (by omega) hj]
        exact ⟨fun y => ⟨by omega, y, (he i (by omega)).mp z⟩, fun y => y.2.1⟩
      · rw [lx_M0 h, b_0]
        exact ⟨(fun y => nomatch y), fun y => absurd ((he i (by omega)).mpr y.2.2) z⟩
  · rw [h]
    refine br_f (by decide) (br_f (by decide) (br_f (by decide) (br_t (by decide) ?_)))
    by_cases hsi : s ≤ i
    · refine br_t (nI_le hsi (by omega)) (hp _ fun j hj => ?_)
      rw [lx_M1 h, b_0]
      exact ⟨(fun z => nomatch z), fun z => by omega⟩
    · refine br_f (nI_ge (by omega) (by omega)) ?_
      rw [nI_1]
      refine hp _ fun j hj => ?_
      rw [lx_M1 h, lx_shl (by omega) hj]
      exact ⟨fun y => ⟨by omega, y⟩, fun y => y.2⟩
  · rw [h]
    refine br_f (by decide) (br_f (by decide) (br_f (by decide) (br_f (by decide) (br_t (by decide) ?_))))
    refine hp _ fun j hj => ?_
    rw [lx_M2 h, lx_shl (by omega) hj]
  · rw [h]
    obtain ⟨h1, h2, h3⟩ := h34 (Or.inl h)
    refine br_f (by decide) (br_f (by decide) (br_f (by decide) (br_f (by decide) (br_f (by decide) (br_t (by decide) ⟨vp_in_nI ht (by omega), ?_⟩)))))
    rw [h3]
    refine lx_aft (by omega) hs (by omega) fun v hv => hp _ fun j hj => ?_
    rw [hv j hj, lx_M3 h h1 h2, hx5]
    constructor
    · rintro ⟨k, a, b, z1, z2⟩
      exact ⟨k, a, b, (hD (P t) i k hi (by omega) (Or.inl h1)).mp z1, (hD (Q t) k j b hj (Or.inl h2)).mp z2⟩
    · rintro ⟨k, a, b, z1, z2⟩
      exact ⟨k, a, b, (hD (P t) i k hi (by omega) (Or.inl h1)).mpr z1, (hD (Q t) k j b hj (Or.inl h2)).mpr z2⟩
  · rw [h]
    obtain ⟨h1, h2, h3⟩ := h34 (Or.inr h)
    refine br_f (by decide) (br_f (by decide) (br_f (by decide) (br_f (by decide) (br_f (by decide) (br_f (by decide) (br_t (by decide) ⟨vp_in_nI ht (by omega), ?_⟩))))))
    rw [h3, lx_ix, nI_clamp (show Q t * 31 + i < 2 ^ 31 by omega)]
    refine ⟨vp_in_nI (by omega) (by omega), hp _ fun j hj => ?_⟩
    rw [b_or, Bool.or_eq_true, lx_M4 h h1 h2, hx5, hD (P t) i j hi hj (Or.inl h1), hD (Q t) i j hi hj (Or.inl h2)]
  · rw [h]
    have h1 := h56 (Or.inl h)
    refine br_f (by decide) (br_f (by decide) (br_f (by decide) (br_f (by decide) (br_f (by decide) (br_f (by decide) (br_f (by decide) (br_t (by decide) ?_)))))))
    rw [nI_1]
    refine lx_aft ht hs (by omega) fun v hv => hp _ fun j hj => ?_
    rw [b_or, Bool.or_eq_true, hv j hj, lx_M5 h h1, hx5, lx_shl (by omega) hj]
    constructor
    · rintro (z | ⟨k, a, b, z1, z2⟩)
      · exact Or.inl z
      · exact Or.inr ⟨k, a, b, (hD (P t) i k hi (by omega) (Or.inl h1)).mp z1, (hD t k j b hj (Or.inr ⟨rfl, a⟩)).mp z2⟩
    · rintro (z | ⟨k, a, b, z1, z2⟩)
      · exact Or.inl z
      · exact Or.inr ⟨k, a, b, (hD (P t) i k hi (by omega) (Or.inl h1)).mpr z1, (hD t k j b hj (Or.inr ⟨rfl, a⟩)).mpr z2⟩
  · rw [h]
    have h1 := h56 (Or.inr h)
    refine br_f (by decide) (br_f (by decide) (br_f (by decide) (br_f (by decide) (br_f (by decide) (br_f (by decide) (br_f (by decide) (br_f (by decide) (br_t (by decide) ?_))))))))
    rw [nI_1]
    refine lx_aft ht hs (by omega) fun v hv => hp _ fun j hj => ?_
    rw [b_or, Bool.or_eq_true, hv j hj, lx_M6 h h1, hx5, hD (P t) i j hi hj (Or.inl h1)]
    constructor
    · rintro (z | ⟨k, a, b, z1, z2⟩)
      · exact Or.inl z
      · exact Or.inr ⟨k, a, b, (hD (P t) i k hi (by omega) (Or.inl h1)).mp z1, (hD t k j b hj (Or.inr ⟨rfl, a⟩)).mp z2⟩
    · rintro (z | ⟨k, a, b, z1, z2⟩)
      · exact Or.inl z
      · exact Or.inr ⟨k, a, b, (hD (P t) i k hi (by omega) (Or.inl h1)).mpr z1, (hD t k j b hj (Or.inr ⟨rfl, a⟩)).mpr z2⟩
  · rw [h]
    refine br_f (by decide) (br_t (by decide) (hp _ fun j hj => ?_))
    rw [b_0]
    exact ⟨(fun z => nomatch z), fun z => absurd z (lx_M7 h)⟩
theorem lx_eo_counted {post : Int32 → Prop} {C P Q : Nat → Nat} {e : Nat → Nat → Prop} {t i s : Nat} (ht : t < 40) (hi : i ≤ s) (hs : s ≤ 30) (hsN : s ≤ 4)
    (N : lx_NX c fi se C P Q t) (hD : lx_DX (lx_M C P Q e s) en s t (i + 1)) (he : ∀ i, i < s → (cn i = l t ↔ e t i))
    (hp : ∀ v, (∀ j, j < 32 → (bt v j = true ↔ lx_M C P Q e s t i j)) → post v) :
    wpX_endsOf__counted post (f0, f1, f2, f3, f4, c, l, fi, se, st, ru, tx, en, ws, wl, cn) (nI t) (nI i) (nI s) := by
  obtain ⟨hc, hc8, hf, hP, h34, h56⟩ := N
  unfold wpX_endsOf__counted
  dsimp only
  rw [nI_clamp (show t < 2 ^ 31 by omega), hf, lx_ix, nI_clamp (show P t * 31 + i < 2 ^ 31 by omega)]
  refine ⟨vp_in_nI ht (by omega), vp_in_nI (by omega) (by omega), ?_⟩
  intro x5 hx5
  refine ⟨vp_in_nI ht (by omega), ?_⟩
  refine nm_r hc ?_
  have hcs : C t = 0 ∨ C t = 1 ∨ C t = 2 ∨ C t = 3 ∨ C t = 4 ∨ C t = 5 ∨ C t = 6 ∨ C t = 7 := by omega
  rcases hcs with h | h | h | h | h | h | h | h
  · rw [h]
    refine br_f (by decide) (br_f (by decide) (br_t (by decide) ?_))
    by_cases hsi : s ≤ i
    · refine br_t (nI_le hsi (by omega)) (hp _ fun j hj => ?_)
      rw [lx_M0 h, b_0]
      exact ⟨(fun z => nomatch z), fun z => by omega⟩
    · refine br_f (nI_ge (by omega) (by omega)) ⟨vp_in_nI (by omega) (by omega), vp_in_nI ht (by omega), ?_⟩
      rw [nI_clamp (show i < 2 ^ 31 by omega), nI_1]
      refine br_c (fun z => hp _ fun j hj => ?_) (fun z => hp _ fun j hj => ?_)
      · rw [lx_M0 h, lx_shl (by omega) hj]
        exact ⟨fun y => ⟨by omega, y, (he i (by omega)).mp z⟩, fun y => y.2.1⟩
      · rw [lx_M0 h, b_0]
        exact ⟨(fun y => nomatch y), fun y => absurd ((he i (by omega)).mpr y.2.2) z⟩
  · rw [h]
    refine br_f (by decide) (br_f (by decide) (br_f (by decide) (br_t (by decide) ?_)))
    by_cases hsi : s ≤ i
    · refine br_t (nI_le hsi (by omega)) (hp _ fun j hj => ?_)
      rw [lx_M1 h, b_0]
      exact ⟨(fun z => nomatch z), fun z => by omega⟩
    · refine br_f (nI_ge (by omega) (by omega)) ?_
      rw [nI_1]
      refine hp _ fun j hj => ?_
      rw [lx_M1 h, lx_shl (by omega) hj]
      exact ⟨fun y => ⟨by omega, y⟩, fun y => y.2⟩
  · rw [h]
    refine br_f (by decide) (br_f (by decide) (br_f (by decide) (br_f (by decide) (br_t (by decide) ?_))))
    refine hp _ fun j hj => ?_
    rw [lx_M2 h, lx_shl (by omega) hj]
  · rw [h]
    obtain ⟨h1, h2, h3⟩ := h34 (Or.inl h)
    refine br_f (by decide) (br_f (by decide) (br_f (by decide) (br_f (by decide) (br_f (by decide) (br_t (by decide) ⟨vp_in_nI ht (by omega), ?_⟩)))))
    rw [h3]
    refine lx_aft (by omega) hs (by omega) fun v hv => hp _ fun j hj => ?_
    rw [hv j hj, lx_M3 h h1 h2, hx5]
    constructor
    · rintro ⟨k, a, b, z1, z2⟩
      exact ⟨k, a, b, (hD (P t) i k hi (by omega) (Or.inl h1)).mp z1, (hD (Q t) k j b hj (Or.inl h2)).mp z2⟩
    · rintro ⟨k, a, b, z1, z2⟩
      exact ⟨k, a, b, (hD (P t) i k hi (by omega) (Or.inl h1)).mpr z1, (hD (Q t) k j b hj (Or.inl h2)).mpr z2⟩
  · rw [h]
    obtain ⟨h1, h2, h3⟩ := h34 (Or.inr h)
    refine br_f (by decide) (br_f (by decide) (br_f (by decide) (br_f (by decide) (br_f (by decide) (br_f (by decide) (br_t (by decide) ⟨vp_in_nI ht (by omega), ?_⟩))))))
    rw [h3, lx_ix, nI_clamp (show Q t * 31 + i < 2 ^ 31 by omega)]
    refine ⟨vp_in_nI (by omega) (by omega), hp _ fun j hj => ?_⟩
    rw [b_or, Bool.or_eq_true, lx_M4 h h1 h2, hx5, hD (P t) i j hi hj (Or.inl h1), hD (Q t) i j hi hj (Or.inl h2)]
  · rw [h]
    have h1 := h56 (Or.inl h)
    refine br_f (by decide) (br_f (by decide) (br_f (by decide) (br_f (by decide) (br_f (by decide) (br_f (by decide) (br_f (by decide) (br_t (by decide) ?_)))))))
    rw [nI_1]
    refine lx_aft ht hs (by omega) fun v hv => hp _ fun j hj => ?_
    rw [b_or, Bool.or_eq_true, hv j hj, lx_M5 h h1, hx5, lx_shl (by omega) hj]
    constructor
    · rintro (z | ⟨k, a, b, z1, z2⟩)
      · exact Or.inl z
      · exact Or.inr ⟨k, a, b, (hD (P t) i k hi (by omega) (Or.inl h1)).mp z1, (hD t k j b hj (Or.inr ⟨rfl, a⟩)).mp z2⟩
    · rintro (z | ⟨k, a, b, z1, z2⟩)
      · exact Or.inl z
      · exact Or.inr ⟨k, a, b, (hD (P t) i k hi (by omega) (Or.inl h1)).mpr z1, (hD t k j b hj (Or.inr ⟨rfl, a⟩)).mpr z2⟩
  · rw [h]
    have h1 := h56 (Or.inr h)
    refine br_f (by decide) (br_f (by decide) (br_f (by decide) (br_f (by decide) (br_f (by decide) (br_f (by decide) (br_f (by decide) (br_f (by decide) (br_t (by decide) ?_))))))))
    rw [nI_1]
    refine lx_aft ht hs (by omega) fun v hv => hp _ fun j hj => ?_
    rw [b_or, Bool.or_eq_true, hv j hj, lx_M6 h h1, hx5, hD (P t) i j hi hj (Or.inl h1)]
    constructor
    · rintro (z | ⟨k, a, b, z1, z2⟩)
      · exact Or.inl z
      · exact Or.inr ⟨k, a, b, (hD (P t) i k hi (by omega) (Or.inl h1)).mp z1, (hD t k j b hj (Or.inr ⟨rfl, a⟩)).mp z2⟩
    · rintro (z | ⟨k, a, b, z1, z2⟩)
      · exact Or.inl z
      · exact Or.inr ⟨k, a, b, (hD (P t) i k hi (by omega) (Or.inl h1)).mpr z1, (hD t k j b hj (Or.inr ⟨rfl, a⟩)).mpr z2⟩
  · rw [h]
    refine br_f (by decide) (br_t (by decide) (hp _ fun j hj => ?_))
    rw [b_0]
    exact ⟨(fun z => nomatch z), fun z => absurd z (lx_M7 h)⟩
end
