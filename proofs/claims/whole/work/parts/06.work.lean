/-- Y's table holds M below node t, and at node t the first p places of its walk -/
def lx_DY (M : Nat → Nat → Nat → Prop) (ft : Nat → Int32) (s t p : Nat) : Prop :=
  ∀ t' i' j', i' ≤ s → j' ≤ s → (t' < t ∨ t' = t ∧ (s - i') * (s + 1) + j' < p) → lx_V M ft t' i' j'
theorem lx_inj {a b m x y : Nat} (hx : x < m) (hy : y < m) (h : a * m + x = b * m + y) : a = b ∧ x = y := by
  have h1 : a = b := by
    rcases Nat.lt_trichotomy a b with z | z | z
    · have h2 := Nat.mul_le_mul_right m (show a + 1 ≤ b from z)
      rw [Nat.succ_mul] at h2
      omega
    · exact z
    · have h2 := Nat.mul_le_mul_right m (show b + 1 ≤ a from z)
      rw [Nat.succ_mul] at h2
      omega
  subst h1
  omega
theorem lx_ps {s a j : Nat} (ha : a ≤ s) (hj : j ≤ s) : a * (s + 1) + j < (s + 1) * (s + 1) := by
  have h1 := Nat.mul_le_mul_right (s + 1) ha
  have h2 : (s + 1) * (s + 1) = s * (s + 1) + (s + 1) := Nat.succ_mul s (s + 1)
  omega
theorem lx_DY_put {M : Nat → Nat → Nat → Prop} {ft : Nat → Int32} {s t i j p : Nat} {v : Int32} (hs : s ≤ 30) (hi : i ≤ s) (hj : j ≤ s) (hp : p = (s - i) * (s + 1) + j) (h : lx_DY M ft s t p) (hv : (v = 1 ∧ M t i j) ∨ (v = 0 ∧ ¬ M t i j)) : lx_DY M (upd ft (961 * t + 31 * i + j) v) s t (p + 1) := by
  intro t' i' j' h1 h2 h3
  unfold lx_V
  by_cases hk : 961 * t' + 31 * i' + j' = 961 * t + 31 * i + j
  · have h4 : t' = t := by omega
    subst h4
    have h5 : i' = i := by omega
    subst h5
    have h6 : j' = j := by omega
    subst h6
    rw [pk_us]
    exact hv
  · rw [pk_un hk]
    refine h t' i' j' h1 h2 ?_
    rcases h3 with h3 | ⟨h3, h4⟩
    · exact Or.inl h3
    · subst h3
      refine Or.inr ⟨rfl, ?_⟩
      rcases Nat.lt_or_ge ((s - i') * (s + 1) + j') p with h5 | h5
      · exact h5
      · exfalso
        obtain ⟨z1, z2⟩ := lx_inj (a := s - i') (b := s - i) (m := s + 1) (x := j') (y := j) (by omega) (by omega) (by omega)
        omega
section
variable {g0 g1 g2 g3 g4 : Int32} {c l le ri st ru tx rw ft : Nat → Int32}
theorem lx_w12 {post : SY → Prop} {J : Int32 → (Nat → Int32) → (Nat → Int32) → (Nat → Int32) → (Nat → Int32) → (Nat → Int32) → (Nat → Int32) → (Nat → Int32) → (Nat → Int32) → (Nat → Int32) → Prop} {C P Q : Nat → Nat} {e : Nat → Nat → Prop} {t s : Nat} (ht : t < 40) (hs : s ≤ 30)
    (N : lx_NY c le ri C P Q t) (he : ∀ i, i < s → (rw i = l t ↔ e t i))
    (hJ : ∀ ft', lx_DY (lx_M C P Q e s) ft' s (t + 1) 0 → J (nI (t + 1)) c l le ri st ru tx rw ft') :
    ∀ d p ft, p + d = (s + 1) * (s + 1) → lx_DY (lx_M C P Q e s) ft s t p → wY_work_12 post J (nI t) g0 g1 g2 g3 (nI s) 38440 (d + 1) (nI p) c l le ri st ru tx rw ft := by
  have hK : (s + 1) * (s + 1) ≤ 961 := Nat.mul_le_mul (show s + 1 ≤ 31 by omega) (show s + 1 ≤ 31 by omega)
  have hq : (nI s + 1) * (nI s + 1) = nI ((s + 1) * (s + 1)) := by rw [nI_1, pk_mul]
  have hne : ¬ (nI s + 1) = 0 := by rw [nI_1]; exact nI_ne0 (by omega) (by omega)
  intro d
  induction d with
  | zero =>
    intro p ft hd hD
    refine br_t (by rw [hq]; exact nI_le (by omega) (by omega)) (nm_r (nI_1 t) (hJ ft ?_))
    intro t' i' j' h1 h2 h3
    refine hD t' i' j' h1 h2 ?_
    rcases Nat.lt_or_ge t' t with h | h
    · exact Or.inl h
    · refine Or.inr ⟨by omega, ?_⟩
      have h4 := lx_ps (s := s) (a := s - i') (j := j') (by omega) h2
      omega
  | succ d ih =>
    intro p ft hd hD
    have ha : p / (s + 1) < s + 1 := Nat.div_lt_of_lt_mul (by omega)
    have hj : p % (s + 1) < s + 1 := Nat.mod_lt _ (by omega)
    have hpe : p = p / (s + 1) * (s + 1) + p % (s + 1) := (Nat.div_add_mod' p (s + 1)).symm
    generalize hae : p / (s + 1) = a at ha hpe
    generalize hje : p % (s + 1) = j at hj hpe
    refine br_f (by rw [hq]; exact nI_ge (by omega) (by omega)) ⟨hne, ?_⟩
    refine nm_r (e' := nI (s - a)) (by rw [nI_1, pk_div (by omega) (by omega) (by omega), hae, pk_sub (by omega)]) ⟨hne, ?_⟩
    refine nm_r (e' := nI j) (by rw [nI_1, pk_rem (by omega) (by omega) (by omega), hje]) ?_
    have hsa : s - (s - a) = a := by omega
    have hput : ∀ v : Int32, ((v = 1 ∧ lx_M C P Q e s t (s - a) j) ∨ (v = 0 ∧ ¬ lx_M C P Q e s t (s - a) j)) → vp_in (961 * nI t + 31 * nI (s - a) + nI j) 38440 ∧ ∀ y, y = upd ft (961 * nI t + 31 * nI (s - a) + nI j).toNatClampNeg v → ∀ x, x = nI p + 1 → wY_work_12 post J (nI t) g0 g1 g2 g3 (nI s) 38440 (d + 1) x c l le ri st ru tx rw y := by
      intro v hv
      rw [lx_iy, nI_clamp (show 961 * t + 31 * (s - a) + j < 2 ^ 31 by omega)]
      refine ⟨vp_in_nI (by omega) (by omega), nm_e (nm_r (nI_1 p) (ih (p + 1) _ (by omega) ?_))⟩
      exact lx_DY_put hs (by omega) (by omega) (by rw [hsa]; exact hpe) hD hv
    refine pk_lt j (s - a) (fun z => ?_) (fun z => ?_)
    · refine hput _ (Or.inr ⟨lx_v0, fun m => ?_⟩)
      have h4 := lx_le C P Q e s t (s - a) j (by omega) m
      omega
    · refine lx_matched ht z (by omega) hs N he (fun t' i' j' h1 h2 h3 => hD t' i' j' h2 h3 (Or.inl h1)) (fun i' j' h1 h2 h3 => hD t i' j' h2 h3 (Or.inr ⟨rfl, ?_⟩)) (fun m => ?_) (fun m => ?_)
      · have h4 := Nat.mul_le_mul_right (s + 1) (show (s - i') + 1 ≤ a by omega)
        rw [Nat.succ_mul] at h4
        omega
      · exact br_f (by decide) (hput _ (Or.inl ⟨lx_v1, m⟩))
      · exact br_t rfl (hput _ (Or.inr ⟨lx_v0, m⟩))
theorem lx_w2 {post : SY → Prop} {C P Q : Nat → Nat} {e : Nat → Nat → Prop} {T s : Nat} (hT : T ≤ 40) (hs : s ≤ 30)
    (N : ∀ t, t < T → lx_NY c le ri C P Q t) (he : ∀ t i, i < s → (rw i = l t ↔ e t i))
    (hp : ∀ ft', (∀ t i j, t < T → i ≤ s → j ≤ s → lx_V (lx_M C P Q e s) ft' t i j) → post (nI T, g1, g2, g3, nI s, c, l, le, ri, st, ru, tx, rw, ft', 38440)) :
    ∀ d t ft, t + d = T → lx_DY (lx_M C P Q e s) ft s t 0 → wY_work_2 post (nI T) g1 g2 g3 (nI s) 38440 (d + 1) (nI t) c l le ri st ru tx rw ft := by
  intro d
  induction d with
  | zero =>
    intro t ft hd hD
    have ht : t = T := by omega
    subst ht
    exact br_t (nI_le (Nat.le_refl _) (by omega)) (hp ft fun t' i' j' h1 h2 h3 => hD t' i' j' h2 h3 (Or.inl h1))
  | succ d ih =>
    intro t ft hd hD
    refine br_f (nI_ge (by omega) (by omega)) ⟨(s + 1) * (s + 1) + 1, ?_⟩
    exact lx_w12 (by omega) hs (N t (by omega)) (he t) (fun ft' h => ih (t + 1) ft' (by omega) h) ((s + 1) * (s + 1)) 0 ft (by omega) hD
theorem lx_work {post : SY → Prop} {C P Q : Nat → Nat} {e : Nat → Nat → Prop} {T s : Nat} (hT : T ≤ 40) (hs : s ≤ 30)
    (N : ∀ t, t < T → lx_NY c le ri C P Q t) (he : ∀ t i, i < s → (rw i = l t ↔ e t i))
    (hp : ∀ ft', (∀ t i j, t < T → i ≤ s → j ≤ s → lx_V (lx_M C P Q e s) ft' t i j) → post (nI T, g1, g2, g3, nI s, c, l, le, ri, st, ru, tx, rw, ft', 38440)) :
    wpY_work post (nI T, g1, g2, g3, nI s, c, l, le, ri, st, ru, tx, rw, ft, 38440) :=
  ⟨T + 1, lx_w2 hT hs N he hp T 0 ft (by omega) (fun t' i' j h1 h2 h3 => by omega)⟩
theorem lx_wt10 {post : SY → Prop} {C P Q : Nat → Nat} {e : Nat → Nat → Prop} {T s : Nat} (hT : T ≤ 40) (hs : s ≤ 30)
    (N : ∀ t, t < T → lx_NY c le ri C P Q t) (he : ∀ t i, i < s → (tx i = l t ↔ e t i))
    (hp : ∀ rw' ft', (∀ t i j, t < T → i ≤ s → j ≤ s → lx_V (lx_M C P Q e s) ft' t i j) → post (nI T, g1, g2, nI s, nI s, c, l, le, ri, st, ru, tx, rw', ft', 38440)) :
    ∀ d i rw, i + d = s → (∀ i', i' < i → rw i' = tx i') → wY_workText_10 post (nI T) g1 g2 (nI s) (nI s) 38440 (d + 1) (nI i) c l le ri st ru tx rw ft := by
  intro d
  induction d with
  | zero =>
    intro i rw hd hr
    have hi : i = s := by omega
    subst hi
    refine br_t (nI_le (Nat.le_refl _) (by omega)) (lx_work hT hs N (fun t i h => ?_) (fun ft' h => hp rw ft' h))
    rw [hr i h]
    exact he t i h
  | succ d ih =>
    intro i rw hd hr
    refine br_f (nI_ge (by omega) (by omega)) ?_
    rw [nI_clamp (show i < 2 ^ 31 by omega)]
    refine ⟨vp_in_nI (by omega) (by omega), vp_in_nI (by omega) (by omega), nm_e (nm_r (nI_1 i) (ih (i + 1) _ (by omega) fun i' h => ?_))⟩
    by_cases hk : i' = i
    · subst hk; exact pk_us
    · rw [pk_un hk]; exact hr i' (by omega)
theorem lx_wt {post : SY → Prop} {C P Q : Nat → Nat} {e : Nat → Nat → Prop} {T s : Nat} (hT : T ≤ 40) (hs : s ≤ 30)
    (N : ∀ t, t < T → lx_NY c le ri C P Q t) (he : ∀ t i, i < s → (tx i = l t ↔ e t i))
    (hp : ∀ rw' ft', (∀ t i j, t < T → i ≤ s → j ≤ s → lx_V (lx_M C P Q e s) ft' t i j) → post (nI T, g1, g2, nI s, nI s, c, l, le, ri, st, ru, tx, rw', ft', 38440)) :
    wpY_workText post (nI T, g1, g2, nI s, g4, c, l, le, ri, st, ru, tx, rw, ft, 38440) :=
  ⟨s + 1, lx_wt10 hT hs N he hp s 0 rw (by omega) (fun i' h => absurd h (Nat.not_lt_zero _))⟩
end
