section
variable {f0 f1 f2 f3 f4 : Int32} {c l fi se st ru tx en ws wl cn : Nat → Int32}
theorem lx_isRow {post : Int32 → Prop} {M : Nat → Nat → Nat → Prop} {A : Nat → Nat} {T s r i j : Nat} (hT : T ≤ 40) (hs : s ≤ 30) (hr : r < 5) (hru : ru r = nI (A r)) (hA : A r < T) (hi : i ≤ s) (hj : j ≤ s)
    (hD : lx_DX M en s T (s + 1)) (h1 : M (A r) i j → post 1) (h0 : ¬ M (A r) i j → post 0) : wpX_isRow post (f0, f1, f2, f3, f4, c, l, fi, se, st, ru, tx, en, ws, wl, cn) (nI r) (nI i) (nI j) := by
  unfold wpX_isRow
  dsimp only
  rw [nI_clamp (show r < 2 ^ 31 by omega), hru, lx_ix, nI_clamp (show A r * 31 + i < 2 ^ 31 by omega)]
  refine ⟨vp_in_nI hr (by omega), vp_in_nI (by omega) (by omega), ?_⟩
  have hd := hD (A r) i j hi (by omega) (Or.inl hA)
  exact br_c (fun z => h1 (hd.mp ((lx_bit _ (by omega)).mp z))) (fun z => h0 fun m => z ((lx_bit _ (by omega)).mpr (hd.mpr m)))
theorem lx_lr2 {post : Int32 → Prop} {M : Nat → Nat → Nat → Prop} {A : Nat → Nat} {T s R i j : Nat} (hT : T ≤ 40) (hs : s ≤ 30) (hR : R ≤ 5) (hA : ∀ r, r < R → ru r = nI (A r) ∧ A r < T) (hi : i ≤ s) (hj : j ≤ s)
    (hD : lx_DX M en s T (s + 1)) : ∀ d r, r + d = R → post (lx_lr (fun r => M (A r) i j) d r) → wX_leastRule_2 post (nI i) (nI j) f0 f1 (nI R) f3 f4 c l fi se st ru tx en ws wl cn (d + 1) (nI r) := by
  intro d
  induction d with
  | zero =>
    intro r hr hp
    exact br_t (nI_le (by omega) (by omega)) hp
  | succ d ih =>
    intro r hr hp
    refine br_f (nI_ge (by omega) (by omega)) ?_
    refine lx_isRow hT hs (by omega) (hA r (by omega)).1 (hA r (by omega)).2 hi hj hD (fun m => ?_) (fun m => ?_)
    · rw [lx_lr_t (B := fun r => M (A r) i j) m] at hp
      exact br_f (by decide) hp
    · rw [lx_lr_f (B := fun r => M (A r) i j) m] at hp
      exact br_t rfl (nm_r (nI_1 r) (ih (r + 1) (by omega) hp))
theorem lx_leastRule {post : Int32 → Prop} {M : Nat → Nat → Nat → Prop} {A : Nat → Nat} {T s R i j : Nat} (hT : T ≤ 40) (hs : s ≤ 30) (hR : R ≤ 5) (hA : ∀ r, r < R → ru r = nI (A r) ∧ A r < T) (hi : i ≤ s) (hj : j ≤ s)
    (hD : lx_DX M en s T (s + 1)) (hp : post (lx_lr (fun r => M (A r) i j) R 0)) : wpX_leastRule post (f0, f1, nI R, f3, f4, c, l, fi, se, st, ru, tx, en, ws, wl, cn) (nI i) (nI j) :=
  ⟨R + 1, lx_lr2 hT hs hR hA hi hj hD R 0 (by omega) hp⟩
theorem lx_eow5 {post : Int32 → Prop} {M : Nat → Nat → Nat → Prop} {A : Nat → Nat} {T s R i : Nat} (hT : T ≤ 40) (hs : s ≤ 30) (hR : R ≤ 5) (hA : ∀ r, r < R → ru r = nI (A r) ∧ A r < T) (hi : i ≤ s)
    (hD : lx_DX M en s T (s + 1)) : ∀ m, m ≤ s → post (nI (lx_ew (fun j => lx_lr (fun r => M (A r) i j) R 0) i m)) → wX_endOfWord_5 post (nI i) f0 f1 (nI R) f3 f4 c l fi se st ru tx en ws wl cn (m + 1) (nI m) := by
  intro m
  induction m with
  | zero =>
    intro hm hp
    rw [lx_ew, ← nI_1] at hp
    exact br_t (nI_le (by omega) (by omega)) hp
  | succ m ih =>
    intro hm hp
    rw [lx_ew] at hp
    by_cases h : m + 1 ≤ i
    · rw [if_pos h, ← nI_1] at hp
      exact br_t (nI_le h (by omega)) hp
    · rw [if_neg h] at hp
      refine br_f (nI_ge (by omega) (by omega)) (lx_leastRule hT hs hR hA hi hm hD ?_)
      by_cases h2 : lx_lr (fun r => M (A r) i (m + 1)) R 0 < 0
      · rw [if_pos h2] at hp
        exact br_t h2 (nm_r (pk_m1 m) (ih (by omega) hp))
      · rw [if_neg h2] at hp
        exact br_f h2 hp
theorem lx_eow {post : Int32 → Prop} {M : Nat → Nat → Nat → Prop} {A : Nat → Nat} {T s R i : Nat} (hT : T ≤ 40) (hs : s ≤ 30) (hR : R ≤ 5) (hA : ∀ r, r < R → ru r = nI (A r) ∧ A r < T) (hi : i ≤ s)
    (hD : lx_DX M en s T (s + 1)) (hp : post (nI (lx_ew (fun j => lx_lr (fun r => M (A r) i j) R 0) i s))) : wpX_endOfWord post (f0, f1, nI R, nI s, f4, c, l, fi, se, st, ru, tx, en, ws, wl, cn) (nI i) :=
  ⟨s + 1, lx_eow5 hT hs hR hA hi hD s (Nat.le_refl _) hp⟩
end
section
variable {g0 g1 g2 g3 g4 : Int32} {c l le ri st ru tx rw ft : Nat → Int32}
theorem lx_ls2 {post : Int32 → Prop} {M : Nat → Nat → Nat → Prop} {A : Nat → Nat} {T s R i j : Nat} (hT : T ≤ 40) (hs : s ≤ 30) (hR : R ≤ 5) (hA : ∀ r, r < R → ru r = nI (A r) ∧ A r < T) (hi : i ≤ s) (hj : j ≤ s)
    (hV : ∀ t i j, t < T → i ≤ s → j ≤ s → lx_V M ft t i j) : ∀ d r, r + d = R → post (lx_lr (fun r => M (A r) i j) d r) → wY_least_2 post (nI i) (nI j) g0 g1 (nI R) g3 g4 c l le ri st ru tx rw ft 38440 (d + 1) (nI r) := by
  intro d
  induction d with
  | zero =>
    intro r hr hp
    exact br_t (nI_le (by omega) (by omega)) hp
  | succ d ih =>
    intro r hr hp
    refine br_f (nI_ge (by omega) (by omega)) ⟨vp_in_nI (by omega) (by omega), ?_⟩
    have hr2 := hA r (by omega)
    rw [nI_clamp (show r < 2 ^ 31 by omega), hr2.1]
    refine lx_is (M := M) (by omega) (by omega) (by omega) (hV _ _ _ hr2.2 hi hj) (fun m => ?_) (fun m => ?_)
    · rw [lx_lr_t (B := fun r => M (A r) i j) m] at hp
      exact br_f (by decide) hp
    · rw [lx_lr_f (B := fun r => M (A r) i j) m] at hp
      exact br_t rfl (nm_r (nI_1 r) (ih (r + 1) (by omega) hp))
theorem lx_least {post : Int32 → Prop} {M : Nat → Nat → Nat → Prop} {A : Nat → Nat} {T s R i j : Nat} (hT : T ≤ 40) (hs : s ≤ 30) (hR : R ≤ 5) (hA : ∀ r, r < R → ru r = nI (A r) ∧ A r < T) (hi : i ≤ s) (hj : j ≤ s)
    (hV : ∀ t i j, t < T → i ≤ s → j ≤ s → lx_V M ft t i j) (hp : post (lx_lr (fun r => M (A r) i j) R 0)) : wpY_least post (g0, g1, nI R, g3, g4, c, l, le, ri, st, ru, tx, rw, ft, 38440) (nI i) (nI j) :=
  ⟨R + 1, lx_ls2 hT hs hR hA hi hj hV R 0 (by omega) hp⟩
theorem lx_end5 {post : Int32 → Prop} {M : Nat → Nat → Nat → Prop} {A : Nat → Nat} {T s R i : Nat} (hT : T ≤ 40) (hs : s ≤ 30) (hR : R ≤ 5) (hA : ∀ r, r < R → ru r = nI (A r) ∧ A r < T) (hi : i ≤ s)
    (hV : ∀ t i j, t < T → i ≤ s → j ≤ s → lx_V M ft t i j) : ∀ m, m ≤ s → post (nI (lx_ew (fun j => lx_lr (fun r => M (A r) i j) R 0) i m)) → wY_end_5 post (nI i) g0 g1 (nI R) g3 g4 c l le ri st ru tx rw ft 38440 (m + 1) (nI m) := by
  intro m
  induction m with
  | zero =>
    intro hm hp
    rw [lx_ew, ← nI_1] at hp
    exact br_t (nI_le (by omega) (by omega)) hp
  | succ m ih =>
    intro hm hp
    rw [lx_ew] at hp
    by_cases h : m + 1 ≤ i
    · rw [if_pos h, ← nI_1] at hp
      exact br_t (nI_le h (by omega)) hp
    · rw [if_neg h] at hp
      refine br_f (nI_ge (by omega) (by omega)) (lx_least hT hs hR hA hi hm hV ?_)
      by_cases h2 : lx_lr (fun r => M (A r) i (m + 1)) R 0 < 0
      · rw [if_pos h2] at hp
        exact br_t h2 (nm_r (pk_m1 m) (ih (by omega) hp))
      · rw [if_neg h2] at hp
        exact br_f h2 hp
theorem lx_end {post : Int32 → Prop} {M : Nat → Nat → Nat → Prop} {A : Nat → Nat} {T s R i : Nat} (hT : T ≤ 40) (hs : s ≤ 30) (hR : R ≤ 5) (hA : ∀ r, r < R → ru r = nI (A r) ∧ A r < T) (hi : i ≤ s)
    (hV : ∀ t i j, t < T → i ≤ s → j ≤ s → lx_V M ft t i j) (hp : post (nI (lx_ew (fun j => lx_lr (fun r => M (A r) i j) R 0) i s))) : wpY_end post (g0, g1, nI R, nI s, g4, c, l, le, ri, st, ru, tx, rw, ft, 38440) (nI i) :=
  ⟨s + 1, lx_end5 hT hs hR hA hi hV s (Nat.le_refl _) hp⟩
end
