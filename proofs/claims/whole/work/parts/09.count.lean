/-- the letter at place i of the candidate w -/
def lx_dg (w i : Nat) : Int32 := nI (w / 2 ^ (2 * i) % 2 ^ 2)
theorem lx_dx {w i : Nat} (hw : w < 2 ^ 31) (hi : i < 4) : (((nI w).toUInt32 >>> ((2 * nI i).toUInt32 &&& Int32.toUInt32 31)).toInt32) &&& 3 = lx_dg w i := by
  have h2 : w / 2 ^ (2 * i) ≤ w := Nat.div_le_self _ _
  rw [show (2 : Int32) * nI i = nI (2 * i) from pk_mul 2 i, pk_ushrN (by omega) (nI (2 * i)) (2 * i) (s_u (2 * i) (by omega)), pk_andN (by omega) 2 (by decide)]
  rfl
theorem lx_dy {w i : Nat} (hw : w < 2 ^ 31) (hi : i < 4) : (nI w >>> ((2 * nI i) &&& 31)) &&& 3 = lx_dg w i := by
  have h2 : w / 2 ^ (2 * i) ≤ w := Nat.div_le_self _ _
  rw [show (2 : Int32) * nI i = nI (2 * i) from pk_mul 2 i, pk_shrN hw (nI (2 * i) &&& 31) (2 * i) (s_l (2 * i) (by omega)), pk_andN (by omega) 2 (by decide)]
  rfl
theorem lx_all {n : Nat} (hn : n ≤ 4) : (1 : Int32) <<< ((2 * nI n) &&& 31) = nI (2 ^ (2 * n)) ∧ 2 ^ (2 * n) ≤ 256 := by
  have h : n = 0 ∨ n = 1 ∨ n = 2 ∨ n = 3 ∨ n = 4 := by omega
  rcases h with h | h | h | h | h <;> subst h <;> decide
section
variable {f0 f1 f2 f3 f4 : Int32} {c l fi se st ru tx en ws wl cn : Nat → Int32}
theorem lx_spell2 {post : SX → Prop} {w n : Nat} (hw : w < 2 ^ 31) (hn : n ≤ 4) (hp : ∀ cn', (∀ i, i < n → cn' i = lx_dg w i) → post (f0, f1, f2, f3, f4, c, l, fi, se, st, ru, tx, en, ws, wl, cn')) :
    ∀ d i cn, i + d = n → (∀ i', i' < i → cn i' = lx_dg w i') → wX_spell_2 post (nI w) (nI n) f0 f1 f2 f3 f4 (d + 1) (nI i) c l fi se st ru tx en ws wl cn := by
  intro d
  induction d with
  | zero =>
    intro i cn hd hc
    have hi : i = n := by omega
    subst hi
    exact br_t (nI_le (by omega) (by omega)) (hp cn hc)
  | succ d ih =>
    intro i cn hd hc
    refine br_f (nI_ge (by omega) (by omega)) ?_
    rw [nI_clamp (show i < 2 ^ 31 by omega), lx_dx hw (by omega)]
    refine ⟨vp_in_nI (by omega) (by omega), nm_e (nm_r (nI_1 i) (ih (i + 1) _ (by omega) fun i' h => ?_))⟩
    by_cases hk : i' = i
    · subst hk; exact pk_us
    · rw [pk_un hk]; exact hc i' (by omega)
theorem lx_spell {post : SX → Prop} {w n : Nat} (hw : w < 2 ^ 31) (hn : n ≤ 4) (hp : ∀ cn', (∀ i, i < n → cn' i = lx_dg w i) → post (f0, f1, f2, f3, f4, c, l, fi, se, st, ru, tx, en, ws, wl, cn')) :
    wpX_spell post (f0, f1, f2, f3, f4, c, l, fi, se, st, ru, tx, en, ws, wl, cn) (nI w) (nI n) :=
  ⟨n + 1, lx_spell2 hw hn hp n 0 cn (by omega) (fun i' h => absurd h (Nat.not_lt_zero _))⟩
theorem lx_ct31 {post : Int32 → SX → Prop} {C P Q : Nat → Nat} {A : Nat → Nat} {T R r n K : Nat} (hT : T ≤ 40) (hR : R ≤ 5) (hA : ∀ r, r < R → ru r = nI (A r) ∧ A r < T) (hr : r < R) (hn : n ≤ 4) (hK : K ≤ 256)
    (N : ∀ t, t < T → lx_NX c fi se C P Q t)
    (hp : ∀ en' cn', post (nI (lx_cn (fun w => lx_M C P Q (fun t i => lx_dg w i = l t) n (A r) 0 n) K)) (nI T, f1, nI R, f3, f4, c, l, fi, se, st, ru, tx, en', ws, wl, cn')) :
    ∀ d w en cn, w + d = K → wX_count_31 post (nI r) (nI n) (nI K) (d + 1) (nI (lx_cn (fun w => lx_M C P Q (fun t i => lx_dg w i = l t) n (A r) 0 n) w)) (nI w) (nI T) f1 (nI R) f3 f4 c l fi se st ru tx en ws wl cn := by
  intro d
  induction d with
  | zero =>
    intro w en cn hd
    have hw : w = K := by omega
    subst hw
    exact br_t (nI_le (by omega) (by omega)) (hp en cn)
  | succ d ih =>
    intro w en cn hd
    refine br_f (nI_ge (by omega) (by omega)) ?_
    refine lx_spell (by omega) hn fun cn' hc => ?_
    refine lx_fe_counted (e := fun t i => lx_dg w i = l t) hT (by omega) hn N (fun t i h => by rw [hc i h]) fun en' hD => ?_
    refine lx_isRow (i := 0) hT (by omega) (by omega) (hA r hr).1 (hA r hr).2 (by omega) (Nat.le_refl _) hD (fun m => ?_) (fun m => ?_)
    · refine br_f (by decide) (nm_r (e' := nI (lx_cn (fun w => lx_M C P Q (fun t i => lx_dg w i = l t) n (A r) 0 n) (w + 1))) ?_ (nm_r (nI_1 w) (ih (w + 1) en' cn' (by omega))))
      rw [lx_cn_t (B := fun w => lx_M C P Q (fun t i => lx_dg w i = l t) n (A r) 0 n) m, nI_1]
    · have h2 := ih (w + 1) en' cn' (by omega)
      rw [lx_cn_f (B := fun w => lx_M C P Q (fun t i => lx_dg w i = l t) n (A r) 0 n) m] at h2
      exact br_t rfl (nm_r (nI_1 w) h2)
end
section
variable {g0 g1 g2 g3 g4 : Int32} {c l le ri st ru tx rw ft : Nat → Int32}
theorem lx_ct50 {post : Int32 → SY → Prop} {J : Int32 → Int32 → Int32 → Int32 → Int32 → Int32 → Int32 → (Nat → Int32) → (Nat → Int32) → (Nat → Int32) → (Nat → Int32) → (Nat → Int32) → (Nat → Int32) → (Nat → Int32) → (Nat → Int32) → (Nat → Int32) → Nat → Prop}
    {C P Q : Nat → Nat} {A : Nat → Nat} {T R r n w : Nat} {x4 : Int32} (hT : T ≤ 40) (hR : R ≤ 5) (hA : ∀ r, r < R → ru r = nI (A r) ∧ A r < T) (hr : r < R) (hn : n ≤ 4) (hw : w < 2 ^ 31)
    (N : ∀ t, t < T → lx_NY c le ri C P Q t)
    (hJ : ∀ rw' ft', J (nI (lx_cn (fun w => lx_M C P Q (fun t i => lx_dg w i = l t) n (A r) 0 n) (w + 1))) (nI (w + 1)) (nI T) g1 (nI R) g3 (nI n) c l le ri st ru tx rw' ft' 38440) :
    ∀ d i rw, i + d = n → (∀ i', i' < i → rw i' = lx_dg w i') → wY_count_50 post J (nI r) (nI n) (nI (lx_cn (fun w => lx_M C P Q (fun t i => lx_dg w i = l t) n (A r) 0 n) w)) x4 (nI w) (nI T) g1 (nI R) g3 (nI n) 38440 (d + 1) (nI i) c l le ri st ru tx rw ft := by
  intro d
  induction d with
  | zero =>
    intro i rw hd hc
    have hi : i = n := by omega
    subst hi
    refine br_t (nI_le (by omega) (by omega)) ?_
    refine lx_work (e := fun t i => lx_dg w i = l t) hT (by omega) N (fun t i h => by rw [hc i h]) fun ft' hV => ?_
    refine ⟨vp_in_nI (by omega) (by omega), ?_⟩
    have hr2 := hA r hr
    rw [nI_clamp (show r < 2 ^ 31 by omega), hr2.1]
    refine lx_is (i := 0) (by omega) (by omega) (by omega) (hV _ _ _ hr2.2 (by omega) (Nat.le_refl _)) (fun m => ?_) (fun m => ?_)
    · have h2 := hJ rw ft'
      rw [lx_cn_t (B := fun w => lx_M C P Q (fun t i => lx_dg w i = l t) i (A r) 0 i) m] at h2
      exact br_f (by decide) (nm_r (nI_1 _) (nm_r (nI_1 w) h2))
    · have h2 := hJ rw ft'
      rw [lx_cn_f (B := fun w => lx_M C P Q (fun t i => lx_dg w i = l t) i (A r) 0 i) m] at h2
      exact br_t rfl (nm_r (nI_1 w) h2)
  | succ d ih =>
    intro i rw hd hc
    refine br_f (nI_ge (by omega) (by omega)) ?_
    rw [nI_clamp (show i < 2 ^ 31 by omega), lx_dy hw (by omega)]
    refine ⟨vp_in_nI (by omega) (by omega), nm_e (nm_r (nI_1 i) (ih (i + 1) _ (by omega) fun i' h => ?_))⟩
    by_cases hk : i' = i
    · subst hk; exact pk_us
    · rw [pk_un hk]; exact hc i' (by omega)
theorem lx_ct40 {post : Int32 → SY → Prop} {C P Q : Nat → Nat} {A : Nat → Nat} {T R r n K : Nat} (hT : T ≤ 40) (hR : R ≤ 5) (hA : ∀ r, r < R → ru r = nI (A r) ∧ A r < T) (hr : r < R) (hn : n ≤ 4) (hK : K ≤ 256)
    (N : ∀ t, t < T → lx_NY c le ri C P Q t)
    (hp : ∀ rw' ft', post (nI (lx_cn (fun w => lx_M C P Q (fun t i => lx_dg w i = l t) n (A r) 0 n) K)) (nI T, g1, nI R, g3, nI n, c, l, le, ri, st, ru, tx, rw', ft', 38440)) :
    ∀ d w rw ft, w + d = K → wY_count_40 post (nI r) (nI n) (nI K) (d + 1) (nI (lx_cn (fun w => lx_M C P Q (fun t i => lx_dg w i = l t) n (A r) 0 n) w)) (nI w) (nI T) g1 (nI R) g3 (nI n) c l le ri st ru tx rw ft 38440 := by
  intro d
  induction d with
  | zero =>
    intro w rw ft hd
    have hw : w = K := by omega
    subst hw
    exact br_t (nI_le (by omega) (by omega)) (hp rw ft)
  | succ d ih =>
    intro w rw ft hd
    refine br_f (nI_ge (by omega) (by omega)) ⟨n + 1, ?_⟩
    exact lx_ct50 hT hR hA hr hn (by omega) N (fun rw' ft' => ih (w + 1) rw' ft' (by omega)) n 0 rw (by omega) (fun i' h => absurd h (Nat.not_lt_zero _))
end
