theorem lx_nn {x : Int32} {n : Nat} (hn : n < 2 ^ 31) (h : nI n ≤ x) : ¬ x < 0 := by
  rw [Int32.le_iff_toInt_le, nI_toInt hn] at h
  rw [Int32.lt_iff_toInt_lt, show (0 : Int32).toInt = 0 by decide]
  omega
section
variable {g0 g1 g2 g3 g4 : Int32} {c l le ri st ru tx rw ft : Nat → Int32}
theorem lx_sortY {post : Int32 → SY → Prop} {C P Q : Nat → Nat} {e : Nat → Nat → Prop} {A : Nat → Nat} {T s R W : Nat} {x : Int32} (hT : T ≤ 40) (hs : s ≤ 30) (hR : R ≤ 5) (hA : ∀ r, r < R → ru r = nI (A r) ∧ A r < T)
    (N : ∀ t, t < T → lx_NY c le ri C P Q t) (he : ∀ t i, i < s → (tx i = l t ↔ e t i))
    (hW : W ≤ 30) (hWs : lx_b (lx_E (lx_M C P Q e s) A R s) W = s) (hb : ∀ v, v < W → lx_b (lx_E (lx_M C P Q e s) A R s) v < s)
    (h1 : ∀ rw' ft' m, m < W → x = nI m → post (lx_lr (fun r => lx_M C P Q e s (A r) (lx_b (lx_E (lx_M C P Q e s) A R s) m) (lx_b (lx_E (lx_M C P Q e s) A R s) (m + 1))) R 0) (nI T, g1, nI R, nI s, nI s, c, l, le, ri, st, ru, tx, rw', ft', 38440))
    (h0 : ∀ rw' ft', (x < 0 ∨ nI W ≤ x) → post (-2) (nI T, g1, nI R, nI s, nI s, c, l, le, ri, st, ru, tx, rw', ft', 38440)) :
    wpY_sort post (nI T, g1, nI R, nI s, g4, c, l, le, ri, st, ru, tx, rw, ft, 38440) x := by
  unfold wpY_sort
  dsimp only
  refine lx_begin (A := A) (W := W) hT hs hR hA N he hW hWs hb (fun rw' ft' m hV z hx => ?_) (fun rw' ft' z => br_f (by decide) (h0 rw' ft' z))
  have hbm := hb m z
  have hE := lx_E_b (lx_M C P Q e s) A R hbm
  refine br_t (nI_pos' (by omega)) (lx_end (M := lx_M C P Q e s) (A := A) hT hs hR hA (by omega) hV ?_)
  exact lx_least (M := lx_M C P Q e s) (A := A) (j := lx_b (lx_E (lx_M C P Q e s) A R s) (m + 1)) hT hs hR hA (by omega) hE.2 hV (h1 rw' ft' m z hx)
theorem lx_lengthY {post : Int32 → SY → Prop} {C P Q : Nat → Nat} {e : Nat → Nat → Prop} {A : Nat → Nat} {T s R W : Nat} {x : Int32} (hT : T ≤ 40) (hs : s ≤ 30) (hR : R ≤ 5) (hA : ∀ r, r < R → ru r = nI (A r) ∧ A r < T)
    (N : ∀ t, t < T → lx_NY c le ri C P Q t) (he : ∀ t i, i < s → (tx i = l t ↔ e t i))
    (hW : W ≤ 30) (hWs : lx_b (lx_E (lx_M C P Q e s) A R s) W = s) (hb : ∀ v, v < W → lx_b (lx_E (lx_M C P Q e s) A R s) v < s)
    (h1 : ∀ rw' ft' m, m < W → x = nI m → post (nI (lx_b (lx_E (lx_M C P Q e s) A R s) (m + 1)) - nI (lx_b (lx_E (lx_M C P Q e s) A R s) m)) (nI T, g1, nI R, nI s, nI s, c, l, le, ri, st, ru, tx, rw', ft', 38440))
    (h0 : ∀ rw' ft', (x < 0 ∨ nI W ≤ x) → post 0 (nI T, g1, nI R, nI s, nI s, c, l, le, ri, st, ru, tx, rw', ft', 38440)) :
    wpY_length post (nI T, g1, nI R, nI s, g4, c, l, le, ri, st, ru, tx, rw, ft, 38440) x := by
  unfold wpY_length
  dsimp only
  refine lx_begin (A := A) (W := W) hT hs hR hA N he hW hWs hb (fun rw' ft' m hV z hx => ?_) (fun rw' ft' z => br_f (by decide) (h0 rw' ft' z))
  have hbm := hb m z
  exact br_t (nI_pos' (by omega)) (lx_end (M := lx_M C P Q e s) (A := A) hT hs hR hA (by omega) hV (h1 rw' ft' m z hx))
theorem lx_matchY {post : Int32 → SY → Prop} {C P Q : Nat → Nat} {e : Nat → Nat → Prop} {A : Nat → Nat} {T s R r : Nat} (hT : T ≤ 40) (hs : s ≤ 30) (hR : R ≤ 5) (hA : ∀ r, r < R → ru r = nI (A r) ∧ A r < T) (hr : r < R)
    (N : ∀ t, t < T → lx_NY c le ri C P Q t) (he : ∀ t i, i < s → (tx i = l t ↔ e t i))
    (h1 : lx_M C P Q e s (A r) 0 s → ∀ rw' ft', post 1 (nI T, g1, nI R, nI s, nI s, c, l, le, ri, st, ru, tx, rw', ft', 38440))
    (h0 : ¬ lx_M C P Q e s (A r) 0 s → ∀ rw' ft', post 0 (nI T, g1, nI R, nI s, nI s, c, l, le, ri, st, ru, tx, rw', ft', 38440)) :
    wpY_matches post (nI T, g1, nI R, nI s, g4, c, l, le, ri, st, ru, tx, rw, ft, 38440) (nI r) := by
  refine br_f (nI_pos (by omega)) (br_t (nI_lt hr (by omega)) ?_)
  refine lx_wt (g4 := g4) hT hs N he fun rw' ft' hV => ⟨vp_in_nI (by omega) (by omega), ?_⟩
  have hr2 := hA r hr
  rw [nI_clamp (show r < 2 ^ 31 by omega), hr2.1]
  refine lx_is (i := 0) (by omega) (by omega) hs (hV _ _ _ hr2.2 (by omega) (Nat.le_refl _)) (fun m => br_f (by decide) (h1 m rw' ft')) (fun m => br_t rfl (h0 m rw' ft'))
theorem lx_countY {post : Int32 → SY → Prop} {C P Q : Nat → Nat} {A : Nat → Nat} {T R r n : Nat} (hT : T ≤ 40) (hR : R ≤ 5) (hA : ∀ r, r < R → ru r = nI (A r) ∧ A r < T) (hr : r < R) (hn : n ≤ 4)
    (N : ∀ t, t < T → lx_NY c le ri C P Q t)
    (hp : ∀ rw' ft', post (nI (lx_cn (fun w => lx_M C P Q (fun t i => lx_dg w i = l t) n (A r) 0 n) (2 ^ (2 * n)))) (nI T, g1, nI R, g3, nI n, c, l, le, ri, st, ru, tx, rw', ft', 38440)) :
    wpY_count post (nI T, g1, nI R, g3, g4, c, l, le, ri, st, ru, tx, rw, ft, 38440) (nI r) (nI n) := by
  refine br_f (nI_pos (by omega)) (br_f (nI_ge hr (by omega)) (br_f (nI_pos (by omega)) (br_t (nI_le (b := 4) hn (by omega)) ?_)))
  refine nm_r (lx_all hn).1 ⟨2 ^ (2 * n) + 1, ?_⟩
  exact lx_ct40 hT hR hA hr hn (lx_all hn).2 N hp (2 ^ (2 * n)) 0 rw ft (by omega)
theorem lx_sortOfY {post : Int32 → SY → Prop} {C P Q : Nat → Nat} {e : Nat → Nat → Prop} {A : Nat → Nat} {T s R a b : Nat} (hT : T ≤ 40) (hs : s ≤ 30) (hR : R ≤ 5) (hA : ∀ r, r < R → ru r = nI (A r) ∧ A r < T) (hab : a ≤ b) (hbs : b ≤ s)
    (N : ∀ t, t < T → lx_NY c le ri C P Q t) (he : ∀ t i, i < s → (tx i = l t ↔ e t i))
    (hp : ∀ rw' ft', post (lx_lr (fun r => lx_M C P Q e s (A r) a b) R 0) (nI T, g1, nI R, nI s, nI s, c, l, le, ri, st, ru, tx, rw', ft', 38440)) :
    wpY_sortOf post (nI T, g1, nI R, nI s, g4, c, l, le, ri, st, ru, tx, rw, ft, 38440) (nI a) (nI b) := by
  refine br_f (nI_pos (by omega)) (br_f (nI_nlt hab (by omega)) (br_t (nI_le hbs (by omega)) ?_))
  refine lx_wt (g4 := g4) hT hs N he fun rw' ft' hV => ?_
  exact lx_least (M := lx_M C P Q e s) (A := A) hT hs hR hA (by omega) hbs hV (hp rw' ft')
end
section
variable {f0 f1 f2 f3 f4 : Int32} {c l fi se st ru tx en ws wl cn : Nat → Int32}
theorem lx_sortX {post : Int32 → SX → Prop} {C P Q : Nat → Nat} {e : Nat → Nat → Prop} {A : Nat → Nat} {T s R : Nat} {x : Int32} (hT : T ≤ 40) (hs : s ≤ 30) (hR : R ≤ 5) (hA : ∀ r, r < R → ru r = nI (A r) ∧ A r < T)
    (N : ∀ t, t < T → lx_NX c fi se C P Q t) (he : ∀ t i, i < s → (tx i = l t ↔ e t i))
    (h1 : ∀ en' w ws' wl' m, w ≤ 30 → lx_b (lx_E (lx_M C P Q e s) A R s) w = s → (∀ v, v < w → lx_b (lx_E (lx_M C P Q e s) A R s) v < s) → m < w → x = nI m → post (lx_lr (fun r => lx_M C P Q e s (A r) (lx_b (lx_E (lx_M C P Q e s) A R s) m) (lx_b (lx_E (lx_M C P Q e s) A R s) (m + 1))) R 0) (nI T, f1, nI R, nI s, nI w, c, l, fi, se, st, ru, tx, en', ws', wl', cn))
    (h0 : ∀ en' w ws' wl', w ≤ 30 → lx_b (lx_E (lx_M C P Q e s) A R s) w = s → (∀ v, v < w → lx_b (lx_E (lx_M C P Q e s) A R s) v < s) → (x < 0 ∨ nI w ≤ x) → post (-2) (nI T, f1, nI R, nI s, nI w, c, l, fi, se, st, ru, tx, en', ws', wl', cn)) :
    wpX_sort post (nI T, f1, nI R, nI s, f4, c, l, fi, se, st, ru, tx, en, ws, wl, cn) x := by
  unfold wpX_sort
  dsimp only
  refine lx_cut (A := A) hT hs hR hA N he fun en' w ws' wl' hw hws hv => ?_
  have hb : ∀ v, v < w → lx_b (lx_E (lx_M C P Q e s) A R s) v < s := fun v z => (hv v z).1
  rcases pk_ix x (n := w) (by omega) with h | h | ⟨m, hm, rfl⟩
  · exact br_t h (br_t rfl (h0 en' w ws' wl' hw hws hb (Or.inl h)))
  · exact br_f (lx_nn (by omega) h) (br_t h (br_t rfl (h0 en' w ws' wl' hw hws hb (Or.inr h))))
  · refine br_f (nI_pos (by omega)) (br_f (nI_ge hm (by omega)) (br_f (by decide) ⟨vp_in_nI (by omega) (by omega), ?_⟩))
    rw [nI_clamp (show m < 2 ^ 31 by omega)]
    show post (ws' m) (nI T, f1, nI R, nI s, nI w, c, l, fi, se, st, ru, tx, en', ws', wl', cn)
    rw [(hv m hm).2.2]
    exact h1 en' w ws' wl' m hw hws hb hm rfl
theorem lx_lengthX {post : Int32 → SX → Prop} {C P Q : Nat → Nat} {e : Nat → Nat → Prop} {A : Nat → Nat} {T s R : Nat} {x : Int32} (hT : T ≤ 40) (hs : s ≤ 30) (hR : R ≤ 5) (hA : ∀ r, r < R → ru r = nI (A r) ∧ A r < T)
    (N : ∀ t, t < T → lx_NX c fi se C P Q t) (he : ∀ t i, i < s → (tx i = l t ↔ e t i))
    (h1 : ∀ en' w ws' wl' m, w ≤ 30 → lx_b (lx_E (lx_M C P Q e s) A R s) w = s → (∀ v, v < w → lx_b (lx_E (lx_M C P Q e s) A R s) v < s) → m < w → x = nI m → post (nI (lx_b (lx_E (lx_M C P Q e s) A R s) (m + 1)) - nI (lx_b (lx_E (lx_M C P Q e s) A R s) m)) (nI T, f1, nI R, nI s, nI w, c, l, fi, se, st, ru, tx, en', ws', wl', cn))
    (h0 : ∀ en' w ws' wl', w ≤ 30 → lx_b (lx_E (lx_M C P Q e s) A R s) w = s → (∀ v, v < w → lx_b (lx_E (lx_M C P Q e s) A R s) v < s) → (x < 0 ∨ nI w ≤ x) → post 0 (nI T, f1, nI R, nI s, nI w, c, l, fi, se, st, ru, tx, en', ws', wl', cn)) :
    wpX_length post (nI T, f1, nI R, nI s, f4, c, l, fi, se, st, ru, tx, en, ws, wl, cn) x := by
  unfold wpX_length
  dsimp only
  refine lx_cut (A := A) hT hs hR hA N he fun en' w ws' wl' hw hws hv => ?_
  have hb : ∀ v, v < w → lx_b (lx_E (lx_M C P Q e s) A R s) v < s := fun v z => (hv v z).1
  rcases pk_ix x (n := w) (by omega) with h | h | ⟨m, hm, rfl⟩
  · exact br_t h (br_t rfl (h0 en' w ws' wl' hw hws hb (Or.inl h)))
  · exact br_f (lx_nn (by omega) h) (br_t h (br_t rfl (h0 en' w ws' wl' hw hws hb (Or.inr h))))
  · refine br_f (nI_pos (by omega)) (br_f (nI_ge hm (by omega)) (br_f (by decide) ⟨vp_in_nI (by omega) (by omega), ?_⟩))
    rw [nI_clamp (show m < 2 ^ 31 by omega)]
    show post (wl' m) (nI T, f1, nI R, nI s, nI w, c, l, fi, se, st, ru, tx, en', ws', wl', cn)
    rw [(hv m hm).2.1]
    exact h1 en' w ws' wl' m hw hws hb hm rfl
theorem lx_isRule {post : Int32 → Prop} {R : Nat} {x : Int32} (hR : R ≤ 5) (h1 : ∀ m, m < R → x = nI m → post 1) (h0 : (x < 0 ∨ nI R ≤ x) → post 0) : wpX_isRule post (f0, f1, nI R, f3, f4, c, l, fi, se, st, ru, tx, en, ws, wl, cn) x := by
  rcases pk_ix x (n := R) (by omega) with h | h | ⟨m, hm, rfl⟩
  · exact br_t h (h0 (Or.inl h))
  · exact br_f (lx_nn (by omega) h) (br_t h (h0 (Or.inr h)))
  · exact br_f (nI_pos (by omega)) (br_f (nI_ge hm (by omega)) (h1 m hm rfl))
end
