section
variable {g0 g1 g2 g3 g4 : Int32} {c l le ri st ru tx rw ft : Nat → Int32}
theorem lx_n0 : narrow .boolean (.int (0 : Int32)) = .int (0 : Int32) := rfl
theorem lx_n1 : narrow .boolean (.int (1 : Int32)) = .int (1 : Int32) := rfl
theorem lx_v0 : vp_nar .boolean (0 : Int32) = 0 := rfl
theorem lx_v1 : vp_nar .boolean (1 : Int32) = 1 := rfl
theorem lx_is {post : Int32 → Prop} {M : Nat → Nat → Nat → Prop} {t i j : Nat} (ht : t < 40) (hi : i ≤ 30) (hj : j ≤ 30) (hV : lx_V M ft t i j)
    (h1 : M t i j → post 1) (h0 : ¬ M t i j → post 0) : wpY_is post (g0, g1, g2, g3, g4, c, l, le, ri, st, ru, tx, rw, ft, 38440) (nI t) (nI i) (nI j) := by
  unfold wpY_is
  dsimp only
  rw [lx_iy, nI_clamp (show 961 * t + 31 * i + j < 2 ^ 31 by omega)]
  refine ⟨vp_in_nI (by omega) (by omega), ?_⟩
  rcases hV with ⟨e, m⟩ | ⟨e, m⟩
  · rw [e]; exact ⟨lx_n1, h1 m⟩
  · rw [e]; exact ⟨lx_n0, h0 m⟩
theorem lx_both6 {post : Int32 → Prop} {M : Nat → Nat → Nat → Prop} {a b i j lo : Nat} (ha : a < 40) (hb : b < 40) (hi : i ≤ 30) (hj : j ≤ 30)
    (hA : ∀ k, lo ≤ k → k ≤ j → lx_V M ft a i k) (hB : ∀ k, lo ≤ k → k ≤ j → lx_V M ft b k j)
    (h1 : (∃ k, lo ≤ k ∧ k ≤ j ∧ M a i k ∧ M b k j) → post 1) (h0 : ¬ (∃ k, lo ≤ k ∧ k ≤ j ∧ M a i k ∧ M b k j) → post 0) :
    ∀ d k, lo ≤ k → (k + d = j + 1 ∨ d = 0 ∧ j < k) → k ≤ 31 → (∀ k', lo ≤ k' → k' < k → ¬ (M a i k' ∧ M b k' j)) → wY_both_6 post (nI a) (nI b) (nI i) (nI j) g0 g1 g2 g3 g4 c l le ri st ru tx rw ft 38440 (d + 1) (nI k) := by
  intro d
  induction d with
  | zero =>
    intro k hl hk h31 hn
    refine br_t (nI_lt (by omega) (by omega)) (h0 ?_)
    rintro ⟨k', z1, z2, z3⟩
    exact hn k' z1 (by omega) z3
  | succ d ih =>
    intro k hl hk h31 hn
    have step : ¬ (M a i k ∧ M b k j) → wY_both_6 post (nI a) (nI b) (nI i) (nI j) g0 g1 g2 g3 g4 c l le ri st ru tx rw ft 38440 (d + 1) (nI (k + 1)) := by
      intro z
      refine ih (k + 1) (by omega) (by omega) (by omega) fun k' z1 z2 => ?_
      by_cases hkk : k' = k
      · subst hkk; exact z
      · exact hn k' z1 (by omega)
    refine br_f (nI_nlt (by omega) (by omega)) ?_
    refine lx_is ha hi (by omega) (hA k hl (by omega)) (fun m => ?_) (fun m => ?_)
    · refine br_f (by decide) ?_
      refine lx_is hb (by omega) hj (hB k hl (by omega)) (fun m' => ?_) (fun m' => ?_)
      · exact br_f (by decide) (h1 ⟨k, hl, by omega, m, m'⟩)
      · exact br_t rfl (nm_r (nI_1 k) (step fun z => m' z.2))
    · exact br_t rfl (nm_r (nI_1 k) (step fun z => m z.1))
theorem lx_both {post : Int32 → Prop} {M : Nat → Nat → Nat → Prop} {a b i j lo : Nat} {x : Int32} (hx : nI i + x = nI lo) (ha : a < 40) (hb : b < 40) (hi : i ≤ 30) (hj : j ≤ 30) (hlo : lo ≤ 31)
    (hA : ∀ k, lo ≤ k → k ≤ j → lx_V M ft a i k) (hB : ∀ k, lo ≤ k → k ≤ j → lx_V M ft b k j)
    (h1 : (∃ k, lo ≤ k ∧ k ≤ j ∧ M a i k ∧ M b k j) → post 1) (h0 : ¬ (∃ k, lo ≤ k ∧ k ≤ j ∧ M a i k ∧ M b k j) → post 0) :
    wpY_both post (g0, g1, g2, g3, g4, c, l, le, ri, st, ru, tx, rw, ft, 38440) (nI a) (nI b) (nI i) (nI j) x := by
  refine nm_r hx ⟨j + 1 - lo + 1, lx_both6 ha hb hi hj hA hB h1 h0 (j + 1 - lo) lo (Nat.le_refl _) ?_ hlo fun k' z1 z2 => ?_⟩
  · rcases Nat.lt_or_ge (j + 1) lo with h | h
    · exact Or.inr ⟨by omega, by omega⟩
    · exact Or.inl (by omega)
  · omega
theorem lx_matched {post : Int32 → Prop} {C P Q : Nat → Nat} {e : Nat → Nat → Prop} {t i j s : Nat} (ht : t < 40) (hij : i ≤ j) (hj : j ≤ s) (hs : s ≤ 30)
    (N : lx_NY c le ri C P Q t) (he : ∀ i, i < s → (rw i = l t ↔ e t i))
    (hA : ∀ t' i' j', t' < t → i' ≤ s → j' ≤ s → lx_V (lx_M C P Q e s) ft t' i' j') (hB : ∀ i' j', i < i' → i' ≤ s → j' ≤ s → lx_V (lx_M C P Q e s) ft t i' j')
    (h1 : lx_M C P Q e s t i j → post 1) (h0 : ¬ lx_M C P Q e s t i j → post 0) :
    wpY_matched post (g0, g1, g2, g3, g4, c, l, le, ri, st, ru, tx, rw, ft, 38440) (nI t) (nI i) (nI j) := by
  obtain ⟨hc, hc8, h34, h56⟩ := N
  unfold wpY_matched
  dsimp only
  rw [nI_clamp (show t < 2 ^ 31 by omega)]
  refine ⟨vp_in_nI ht (by omega), ?_⟩
  refine nm_r hc ⟨vp_in_nI ht (by omega), ?_⟩
  have hcs : C t = 0 ∨ C t = 1 ∨ C t = 2 ∨ C t = 3 ∨ C t = 4 ∨ C t = 5 ∨ C t = 6 ∨ C t = 7 := by omega
  rcases hcs with h | h | h | h | h | h | h | h
  · rw [h, nI_1, nI_clamp (show i < 2 ^ 31 by omega)]
    refine nm_e (br_t (by decide) (pk_eq j (i + 1) (fun z => ?_) (fun z => h0 fun m => ?_)))
    · refine ⟨vp_in_nI (by omega) (by omega), vp_in_nI ht (by omega), br_c (fun y => h1 ?_) (fun y => h0 fun m => ?_)⟩
      · exact (lx_M0 h).mpr ⟨by omega, z, (he i (by omega)).mp y⟩
      · exact y ((he i (by omega)).mpr ((lx_M0 h).mp m).2.2)
    · exact z ((lx_M0 h).mp m).2.1
  · rw [h, nI_1]
    refine nm_e (br_f (by decide) (br_t (by decide) (pk_eq j (i + 1) (fun z => h1 ?_) (fun z => h0 fun m => ?_))))
    · exact (lx_M1 h).mpr ⟨by omega, z⟩
    · exact z ((lx_M1 h).mp m).2
  · rw [h]
    refine nm_e (br_f (by decide) (br_f (by decide) (br_t (by decide) (pk_eq i j (fun z => h1 ?_) (fun z => h0 fun m => ?_)))))
    · exact (lx_M2 h).mpr z.symm
    · exact z ((lx_M2 h).mp m).symm
  · obtain ⟨p1, q1, e1, e2⟩ := h34 (Or.inl h)
    rw [h]
    refine nm_r e2 (br_f (by decide) (br_f (by decide) (br_f (by decide) (br_t (by decide) ⟨vp_in_nI ht (by omega), ?_⟩))))
    rw [e1]
    refine lx_both (M := lx_M C P Q e s) (lo := i) (Int32.add_zero _) (by omega) (by omega) (by omega) (by omega) (by omega) (fun k _ z => hA _ _ _ p1 (by omega) (by omega)) (fun k _ z => hA _ _ _ q1 (by omega) (by omega)) (fun z => ?_) (fun z => ?_)
    · refine ⟨lx_n1, h1 ((lx_M3 h p1 q1).mpr ?_)⟩
      obtain ⟨k, a, b, m⟩ := z
      exact ⟨k, a, by omega, m⟩
    · refine ⟨lx_n0, h0 fun m => z ?_⟩
      obtain ⟨k, a, b, m1, m2⟩ := (lx_M3 h p1 q1).mp m
      exact ⟨k, a, (lx_le C P Q e s _ _ _ b m2).1, m1, m2⟩
  · obtain ⟨p1, q1, e1, e2⟩ := h34 (Or.inr h)
    rw [h]
    refine nm_r e2 (br_f (by decide) (br_f (by decide) (br_f (by decide) (br_f (by decide) (br_t (by decide) ⟨vp_in_nI ht (by omega), ?_⟩)))))
    rw [e1]
    refine lx_is (by omega) (by omega) (by omega) (hA _ _ _ p1 (by omega) hj) (fun m => ?_) (fun m => ?_)
    · exact br_f (by decide) (h1 ((lx_M4 h p1 q1).mpr (Or.inl m)))
    · refine br_t rfl (lx_is (by omega) (by omega) (by omega) (hA _ _ _ q1 (by omega) hj) (fun m' => ?_) (fun m' => ?_))
      · exact br_f (by decide) (h1 ((lx_M4 h p1 q1).mpr (Or.inr m')))
      · exact br_t rfl (h0 fun z => ((lx_M4 h p1 q1).mp z).elim m m')
  · obtain ⟨p1, e2⟩ := h56 (Or.inl h)
    rw [h]
    refine nm_r e2 (br_f (by decide) (br_f (by decide) (br_f (by decide) (br_f (by decide) (br_f (by decide) (br_f (by decide) ?_))))))
    refine lx_both (M := lx_M C P Q e s) (lo := i + 1) (nI_1 i) (by omega) (by omega) (by omega) (by omega) (by omega) (fun k _ z => hA _ _ _ p1 (by omega) (by omega)) (fun k y z => hB _ _ (by omega) (by omega) (by omega)) (fun z => ?_) (fun z => ?_)
    · refine br_t (by decide) (pk_eq i j (fun y => h1 ((lx_M5 h p1).mpr (Or.inl y.symm))) (fun y => br_f (by decide) (h1 ((lx_M5 h p1).mpr (Or.inr ?_)))))
      obtain ⟨k, a, b, m⟩ := z
      exact ⟨k, by omega, by omega, m⟩
    · refine br_t (by decide) (pk_eq i j (fun y => h1 ((lx_M5 h p1).mpr (Or.inl y.symm))) (fun y => br_t rfl (h0 fun m => ?_)))
      rcases (lx_M5 h p1).mp m with m | ⟨k, a, b, m1, m2⟩
      · exact y m.symm
      · exact z ⟨k, a, (lx_le C P Q e s _ _ _ b m2).1, m1, m2⟩
  · obtain ⟨p1, e2⟩ := h56 (Or.inr h)
    rw [h]
    refine nm_r e2 (br_f (by decide) (br_f (by decide) (br_f (by decide) (br_f (by decide) (br_f (by decide) (br_f (by decide) ?_))))))
    refine lx_both (M := lx_M C P Q e s) (lo := i + 1) (nI_1 i) (by omega) (by omega) (by omega) (by omega) (by omega) (fun k _ z => hA _ _ _ p1 (by omega) (by omega)) (fun k y z => hB _ _ (by omega) (by omega) (by omega)) (fun z => ?_) (fun z => ?_)
    · refine br_f (by decide) (lx_is (by omega) (by omega) (by omega) (hA _ _ _ p1 (by omega) hj) (fun m => ?_) (fun m => ?_))
      · exact br_f (by decide) (h1 ((lx_M6 h p1).mpr (Or.inl m)))
      · refine br_t rfl (br_f (by decide) (h1 ((lx_M6 h p1).mpr (Or.inr ?_))))
        obtain ⟨k, a, b, m⟩ := z
        exact ⟨k, by omega, by omega, m⟩
    · refine br_f (by decide) (lx_is (by omega) (by omega) (by omega) (hA _ _ _ p1 (by omega) hj) (fun m => ?_) (fun m => ?_))
      · exact br_f (by decide) (h1 ((lx_M6 h p1).mpr (Or.inl m)))
      · refine br_t rfl (br_t rfl (h0 fun m' => ?_))
        rcases (lx_M6 h p1).mp m' with m' | ⟨k, a, b, m1, m2⟩
        · exact m m'
        · exact z ⟨k, a, (lx_le C P Q e s _ _ _ b m2).1, m1, m2⟩
  · rw [h]
    refine nm_e (br_f (by decide) (br_f (by decide) (br_f (by decide) (br_f (by decide) (br_f (by decide) (br_t (by decide) (h0 (lx_M7 h))))))))
end
