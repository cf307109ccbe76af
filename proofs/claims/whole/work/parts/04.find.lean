section
variable {f0 f1 f2 f3 f4 : Int32} {c l fi se st ru tx en ws wl cn : Nat → Int32}
theorem lx_DX_put {M : Nat → Nat → Nat → Prop} {s t i : Nat} {v : Int32} (hs : s ≤ 30) (hi : i ≤ s) (h : lx_DX M en s t (i + 1)) (hv : ∀ j, j < 32 → (bt v j = true ↔ M t i j)) : lx_DX M (upd en (t * 31 + i) v) s t i := by
  intro t' i' j h1 h2 h3
  by_cases hk : t' * 31 + i' = t * 31 + i
  · have h4 : t' = t := by omega
    have h5 : i' = i := by omega
    subst h4 h5
    rw [pk_us]
    exact hv j h2
  · rw [pk_un hk]
    refine h t' i' j h1 h2 ?_
    rcases h3 with h3 | ⟨h3, h4⟩
    · exact Or.inl h3
    · subst h3
      refine Or.inr ⟨rfl, ?_⟩
      rcases Nat.lt_or_ge i i' with h5 | h5
      · exact h5
      · exact absurd (by omega) hk
theorem lx_fe13_text {post : SX → Prop} {J : Int32 → (Nat → Int32) → (Nat → Int32) → (Nat → Int32) → (Nat → Int32) → (Nat → Int32) → (Nat → Int32) → (Nat → Int32) → (Nat → Int32) → (Nat → Int32) → (Nat → Int32) → (Nat → Int32) → Prop} {C P Q : Nat → Nat} {e : Nat → Nat → Prop} {t s : Nat} (ht : t < 40) (hs : s ≤ 30) (hsN : s ≤ 30)
    (N : lx_NX c fi se C P Q t) (he : ∀ i, i < s → (tx i = l t ↔ e t i))
    (hJ : ∀ en', lx_DX (lx_M C P Q e s) en' s (t + 1) (s + 1) → J (nI (t + 1)) c l fi se st ru tx en' ws wl cn) :
    ∀ d en, d ≤ s + 1 → lx_DX (lx_M C P Q e s) en s t d → wX_findEnds__text_13 post J (nI s) (nI t) f0 f1 f2 f3 f4 (d + 1) (lx_dn d) c l fi se st ru tx en ws wl cn := by
  intro d
  induction d with
  | zero =>
    intro en hd hD
    refine br_t (show (-1 : Int32) < 0 by decide) (nm_r (nI_1 t) (hJ en ?_))
    intro t' i' j h1 h2 h3
    refine hD t' i' j h1 h2 ?_
    rcases Nat.lt_or_ge t' t with h | h
    · exact Or.inl h
    · exact Or.inr ⟨by omega, by omega⟩
  | succ d ih =>
    intro en hd hD
    show wX_findEnds__text_13 post J (nI s) (nI t) f0 f1 f2 f3 f4 (d + 1 + 1) (nI d) c l fi se st ru tx en ws wl cn
    refine br_f (nI_pos (show d < 2 ^ 31 by omega)) ?_
    refine lx_eo_text ht (by omega) hs hsN N hD he fun v hv => ?_
    show vp_in (nI t * 31 + nI d) 1240 ∧ _
    rw [lx_ix, nI_clamp (show t * 31 + d < 2 ^ 31 by omega)]
    refine ⟨vp_in_nI (by omega) (by omega), nm_e (nm_r (lx_dn_m d) ?_)⟩
    exact ih _ (by omega) (lx_DX_put hs (by omega) hD hv)
theorem lx_fe2_text {post : SX → Prop} {C P Q : Nat → Nat} {e : Nat → Nat → Prop} {T s : Nat} (hT : T ≤ 40) (hs : s ≤ 30) (hsN : s ≤ 30)
    (N : ∀ t, t < T → lx_NX c fi se C P Q t) (he : ∀ t i, i < s → (tx i = l t ↔ e t i))
    (hp : ∀ en', lx_DX (lx_M C P Q e s) en' s T (s + 1) → post (nI T, f1, f2, f3, f4, c, l, fi, se, st, ru, tx, en', ws, wl, cn)) :
    ∀ d t en, t + d = T → lx_DX (lx_M C P Q e s) en s t (s + 1) → wX_findEnds__text_2 post (nI s) (nI T) f1 f2 f3 f4 (d + 1) (nI t) c l fi se st ru tx en ws wl cn := by
  intro d
  induction d with
  | zero =>
    intro t en hd hD
    have ht : t = T := by omega
    subst ht
    exact br_t (nI_le (Nat.le_refl _) (by omega)) (hp en hD)
  | succ d ih =>
    intro t en hd hD
    refine br_f (nI_ge (by omega) (by omega)) ⟨s + 2, ?_⟩
    exact lx_fe13_text (by omega) hs hsN (N t (by omega)) (he t) (fun en' h => ih (t + 1) en' (by omega) h) (s + 1) en (by omega) hD
theorem lx_fe_text {post : SX → Prop} {C P Q : Nat → Nat} {e : Nat → Nat → Prop} {T s : Nat} (hT : T ≤ 40) (hs : s ≤ 30) (hsN : s ≤ 30)
    (N : ∀ t, t < T → lx_NX c fi se C P Q t) (he : ∀ t i, i < s → (tx i = l t ↔ e t i))
    (hp : ∀ en', lx_DX (lx_M C P Q e s) en' s T (s + 1) → post (nI T, f1, f2, f3, f4, c, l, fi, se, st, ru, tx, en', ws, wl, cn)) :
    wpX_findEnds__text post (nI T, f1, f2, f3, f4, c, l, fi, se, st, ru, tx, en, ws, wl, cn) (nI s) :=
  ⟨T + 1, lx_fe2_text hT hs hsN N he hp T 0 en (by omega) (fun t' i' j h1 h2 h3 => by omega)⟩
theorem lx_fe13_counted {post : SX → Prop} {J : Int32 → (Nat → Int32) → (Nat → Int32) → (Nat → Int32) → (Nat → Int32) → (Nat → Int32) → (Nat → Int32) → (Nat → Int32) → (Nat → Int32) → (Nat → Int32) → (Nat → Int32) → (Nat → Int32) → Prop} {C P Q : Nat → Nat} {e : Nat → Nat → Prop} {t s : Nat} (ht : t < 40) (hs : s ≤ 30) (hsN : s ≤ 4)
    (N : lx_NX c fi se C P Q t) (he : ∀ i, i < s → (cn i = l t ↔ e t i))
    (hJ : ∀ en', lx_DX (lx_M C P Q e s) en' s (t + 1) (s + 1) → J (nI (t + 1)) c l fi se st ru tx en' ws wl cn) :
    ∀ d en, d ≤ s + 1 → lx_DX (lx_M C P Q e s) en s t d → wX_findEnds__counted_13 post J (nI s) (nI t) f0 f1 f2 f3 f4 (d + 1) (lx_dn d) c l fi se st ru tx en ws wl cn := by
  intro d
  induction d with
  | zero =>
    intro en hd hD
    refine br_t (show (-1 : Int32) < 0 by decide) (nm_r (nI_1 t) (hJ en ?_))
    intro t' i' j h1 h2 h3
    refine hD t' i' j h1 h2 ?_
    rcases Nat.lt_or_ge t' t with h | h
    · exact Or.inl h
    · exact Or.inr ⟨by omega, by omega⟩
  | succ d ih =>
    intro en hd hD
    show wX_findEnds__counted_13 post J (nI s) (nI t) f0 f1 f2 f3 f4 (d + 1 + 1) (nI d) c l fi se st ru tx en ws wl cn
    refine br_f (nI_pos (show d < 2 ^ 31 by omega)) ?_
    refine lx_eo_counted ht (by omega) hs hsN N hD he fun v hv => ?_
    show vp_in (nI t * 31 + nI d) 1240 ∧ _
    rw [lx_ix, nI_clamp (show t * 31 + d < 2 ^ 31 by omega)]
    refine ⟨vp_in_nI (by omega) (by omega), nm_e (nm_r (lx_dn_m d) ?_)⟩
    exact ih _ (by omega) (lx_DX_put hs (by omega) hD hv)
theorem lx_fe2_counted {post : SX → Prop} {C P Q : Nat → Nat} {e : Nat → Nat → Prop} {T s : Nat} (hT : T ≤ 40) (hs : s ≤ 30) (hsN : s ≤ 4)
    (N : ∀ t, t < T → lx_NX c fi se C P Q t) (he : ∀ t i, i < s → (cn i = l t ↔ e t i))
    (hp : ∀ en', lx_DX (lx_M C P Q e s) en' s T (s + 1) → post (nI T, f1, f2, f3, f4, c, l, fi, se, st, ru, tx, en', ws, wl, cn)) :
    ∀ d t en, t + d = T → lx_DX (lx_M C P Q e s) en s t (s + 1) → wX_findEnds__counted_2 post (nI s) (nI T) f1 f2 f3 f4 (d + 1) (nI t) c l fi se st ru tx en ws wl cn := by
  intro d
  induction d with
  | zero =>
    intro t en hd hD
    have ht : t = T := by omega
    subst ht
    exact br_t (nI_le (Nat.le_refl _) (by omega)) (hp en hD)
  | succ d ih =>
    intro t en hd hD
    refine br_f (nI_ge (by omega) (by omega)) ⟨s + 2, ?_⟩
    exact lx_fe13_counted (by omega) hs hsN (N t (by omega)) (he t) (fun en' h => ih (t + 1) en' (by omega) h) (s + 1) en (by omega) hD
theorem lx_fe_counted {post : SX → Prop} {C P Q : Nat → Nat} {e : Nat → Nat → Prop} {T s : Nat} (hT : T ≤ 40) (hs : s ≤ 30) (hsN : s ≤ 4)
    (N : ∀ t, t < T → lx_NX c fi se C P Q t) (he : ∀ t i, i < s → (cn i = l t ↔ e t i))
    (hp : ∀ en', lx_DX (lx_M C P Q e s) en' s T (s + 1) → post (nI T, f1, f2, f3, f4, c, l, fi, se, st, ru, tx, en', ws, wl, cn)) :
    wpX_findEnds__counted post (nI T, f1, f2, f3, f4, c, l, fi, se, st, ru, tx, en, ws, wl, cn) (nI s) :=
  ⟨T + 1, lx_fe2_counted hT hs hsN N he hp T 0 en (by omega) (fun t' i' j h1 h2 h3 => by omega)⟩
end
