/-- where the word that begins at i ends -/
noncomputable def lx_E (M : Nat → Nat → Nat → Prop) (A : Nat → Nat) (R s i : Nat) : Nat := lx_ew (fun j => lx_lr (fun r => M (A r) i j) R 0) i s
theorem lx_E_b (M : Nat → Nat → Nat → Prop) (A : Nat → Nat) (R : Nat) {s i : Nat} (h : i < s) : i < lx_E M A R s i ∧ lx_E M A R s i ≤ s := by
  have h1 := lx_ew_b (fun j => lx_lr (fun r => M (A r) i j) R 0) i s
  unfold lx_E
  omega
/-- what word v is -/
def lx_Wd (M : Nat → Nat → Nat → Prop) (A : Nat → Nat) (R s : Nat) (ws wl : Nat → Int32) (v : Nat) : Prop :=
  wl v = nI (lx_b (lx_E M A R s) (v + 1)) - nI (lx_b (lx_E M A R s) v) ∧ ws v = lx_lr (fun r => M (A r) (lx_b (lx_E M A R s) v) (lx_b (lx_E M A R s) (v + 1))) R 0
section
variable {f0 f1 f2 f3 f4 : Int32} {c l fi se st ru tx en ws wl cn : Nat → Int32}
theorem lx_cut21 {post : SX → Prop} {M : Nat → Nat → Nat → Prop} {A : Nat → Nat} {T s R : Nat} (hT : T ≤ 40) (hs : s ≤ 30) (hR : R ≤ 5) (hA : ∀ r, r < R → ru r = nI (A r) ∧ A r < T)
    (hD : lx_DX M en s T (s + 1))
    (hp : ∀ w ws' wl', w ≤ 30 → lx_b (lx_E M A R s) w = s → (∀ v, v < w → lx_b (lx_E M A R s) v < s ∧ lx_Wd M A R s ws' wl' v) → post (f0, f1, nI R, nI s, nI w, c, l, fi, se, st, ru, tx, en, ws', wl', cn)) :
    ∀ d m w ws wl, m + d = s → w ≤ m → m ≤ lx_b (lx_E M A R s) w → lx_b (lx_E M A R s) w ≤ s → (∀ v, v < w → lx_b (lx_E M A R s) v < m ∧ lx_Wd M A R s ws wl v) →
      wX_cut_21 post f0 f1 (nI R) (nI s) (d + 1) (nI (lx_b (lx_E M A R s) w)) (nI m) (nI w) c l fi se st ru tx en ws wl cn := by
  intro d
  induction d with
  | zero =>
    intro m w ws wl hd hwm hm hb hv
    refine br_t (nI_le (by omega) (by omega)) (hp w ws wl (by omega) (by omega) fun v z => ⟨?_, (hv v z).2⟩)
    have := (hv v z).1
    omega
  | succ d ih =>
    intro m w ws wl hd hwm hm hb hv
    refine br_f (nI_ge (by omega) (by omega)) ?_
    by_cases h : m = lx_b (lx_E M A R s) w
    · refine br_t (congrArg nI h) ?_
      have hE := lx_E_b M A R (s := s) (i := m) (by omega)
      refine lx_eow (M := M) (A := A) hT hs hR hA (by omega) hD ?_
      rw [nI_clamp (show w < 2 ^ 31 by omega)]
      refine ⟨vp_in_nI (by omega) (by omega), nm_e ?_⟩
      refine lx_leastRule (M := M) (A := A) (j := lx_E M A R s m) hT hs hR hA (by omega) hE.2 hD ?_
      refine ⟨vp_in_nI (by omega) (by omega), nm_e (nm_r (nI_1 w) (nm_r (nI_1 m) ?_))⟩
      subst h
      refine ih (lx_b (lx_E M A R s) w + 1) (w + 1) _ _ (by omega) (by omega) hE.1 hE.2 fun v z => ?_
      by_cases hvw : v = w
      · subst hvw
        exact ⟨by omega, pk_us, pk_us⟩
      · have hq := hv v (by omega)
        refine ⟨by omega, ?_⟩
        unfold lx_Wd
        rw [pk_un hvw, pk_un hvw]
        exact hq.2
    · refine br_f (fun z => h ((nI_eq (by omega) (by omega)).mp z)) (nm_r (nI_1 m) ?_)
      refine ih (m + 1) w ws wl (by omega) (by omega) (by omega) hb fun v z => ⟨?_, (hv v z).2⟩
      have := (hv v z).1
      omega
theorem lx_cut {post : SX → Prop} {C P Q : Nat → Nat} {e : Nat → Nat → Prop} {A : Nat → Nat} {T s R : Nat} (hT : T ≤ 40) (hs : s ≤ 30) (hR : R ≤ 5) (hA : ∀ r, r < R → ru r = nI (A r) ∧ A r < T)
    (N : ∀ t, t < T → lx_NX c fi se C P Q t) (he : ∀ t i, i < s → (tx i = l t ↔ e t i))
    (hp : ∀ en' w ws' wl', w ≤ 30 → lx_b (lx_E (lx_M C P Q e s) A R s) w = s → (∀ v, v < w → lx_b (lx_E (lx_M C P Q e s) A R s) v < s ∧ lx_Wd (lx_M C P Q e s) A R s ws' wl' v) → post (nI T, f1, nI R, nI s, nI w, c, l, fi, se, st, ru, tx, en', ws', wl', cn)) :
    wpX_cut post (nI T, f1, nI R, nI s, f4, c, l, fi, se, st, ru, tx, en, ws, wl, cn) := by
  refine lx_fe_text hT hs hs N he fun en' hD => ⟨s + 1, ?_⟩
  exact lx_cut21 (M := lx_M C P Q e s) (A := A) hT hs hR hA hD (fun w ws' wl' => hp en' w ws' wl') s 0 0 ws wl (by omega) (by omega) (Nat.zero_le _) (Nat.zero_le _) (fun v z => absurd z (Nat.not_lt_zero _))
end
section
variable {g0 g1 g2 g3 g4 : Int32} {c l le ri st ru tx rw ft : Nat → Int32}
theorem lx_words8 {post : Int32 → SY → Prop} {M : Nat → Nat → Nat → Prop} {A : Nat → Nat} {T s R W : Nat} (hT : T ≤ 40) (hs : s ≤ 30) (hR : R ≤ 5) (hA : ∀ r, r < R → ru r = nI (A r) ∧ A r < T)
    (hV : ∀ t i j, t < T → i ≤ s → j ≤ s → lx_V M ft t i j) (hW : W ≤ 30) (hWs : lx_b (lx_E M A R s) W = s) (hb : ∀ v, v < W → lx_b (lx_E M A R s) v < s)
    (hp : post (nI W) (g0, g1, nI R, nI s, g4, c, l, le, ri, st, ru, tx, rw, ft, 38440)) :
    ∀ d w, w + d = W → wY_words_8 post g0 g1 (nI R) (nI s) g4 c l le ri st ru tx rw ft 38440 (d + 1) (nI w) (nI (lx_b (lx_E M A R s) w)) := by
  intro d
  induction d with
  | zero =>
    intro w hd
    have hw : w = W := by omega
    subst hw
    exact br_t (nI_le (by omega) (by omega)) hp
  | succ d ih =>
    intro w hd
    have h1 := hb w (by omega)
    refine br_f (nI_ge (by omega) (by omega)) (br_f (nI_ge (b := 30) (by omega) (by omega)) ?_)
    refine lx_end (M := M) (A := A) hT hs hR hA (by omega) hV ?_
    exact nm_r (nI_1 w) (ih (w + 1) (by omega))
theorem lx_begin14 {post : Int32 → SY → Prop} {M : Nat → Nat → Nat → Prop} {A : Nat → Nat} {T s R W m : Nat} (hT : T ≤ 40) (hs : s ≤ 30) (hR : R ≤ 5) (hA : ∀ r, r < R → ru r = nI (A r) ∧ A r < T)
    (hV : ∀ t i j, t < T → i ≤ s → j ≤ s → lx_V M ft t i j) (hW : W ≤ 30) (hWs : lx_b (lx_E M A R s) W = s) (hb : ∀ v, v < W → lx_b (lx_E M A R s) v < s) (hm : m < 2 ^ 31)
    (h1 : m < W → post (nI (lx_b (lx_E M A R s) m)) (g0, g1, nI R, nI s, g4, c, l, le, ri, st, ru, tx, rw, ft, 38440)) (h0 : W ≤ m → post (-1) (g0, g1, nI R, nI s, g4, c, l, le, ri, st, ru, tx, rw, ft, 38440)) :
    ∀ d w, w + d = W → w ≤ m → wY_begin_14 post (nI m) g0 g1 (nI R) (nI s) g4 c l le ri st ru tx rw ft 38440 (d + 1) (nI (lx_b (lx_E M A R s) w)) (nI w) := by
  intro d
  induction d with
  | zero =>
    intro w hd hwm
    have hw : w = W := by omega
    subst hw
    by_cases h : m ≤ w
    · exact br_t (nI_le h (by omega)) (br_t (nI_le (by omega) (by omega)) (h0 hwm))
    · exact br_f (nI_ge (by omega) (by omega)) (br_t (nI_le (by omega) (by omega)) (br_t (nI_le (by omega) (by omega)) (h0 hwm)))
  | succ d ih =>
    intro w hd hwm
    have hbw := hb w (by omega)
    by_cases h : m ≤ w
    · have hw : w = m := by omega
      subst hw
      exact br_t (nI_le h (by omega)) (br_f (nI_ge (by omega) (by omega)) (h1 (by omega)))
    · refine br_f (nI_ge (by omega) (by omega)) (br_f (nI_ge (by omega) (by omega)) ?_)
      refine lx_end (M := M) (A := A) hT hs hR hA (by omega) hV ?_
      exact nm_r (nI_1 w) (ih (w + 1) (by omega) (by omega))
theorem lx_words {post : Int32 → SY → Prop} {C P Q : Nat → Nat} {e : Nat → Nat → Prop} {A : Nat → Nat} {T s R W : Nat} (hT : T ≤ 40) (hs : s ≤ 30) (hR : R ≤ 5) (hA : ∀ r, r < R → ru r = nI (A r) ∧ A r < T)
    (N : ∀ t, t < T → lx_NY c le ri C P Q t) (he : ∀ t i, i < s → (tx i = l t ↔ e t i))
    (hW : W ≤ 30) (hWs : lx_b (lx_E (lx_M C P Q e s) A R s) W = s) (hb : ∀ v, v < W → lx_b (lx_E (lx_M C P Q e s) A R s) v < s)
    (hp : ∀ rw' ft', post (nI W) (nI T, g1, nI R, nI s, nI s, c, l, le, ri, st, ru, tx, rw', ft', 38440)) :
    wpY_words post (nI T, g1, nI R, nI s, g4, c, l, le, ri, st, ru, tx, rw, ft, 38440) := by
  refine lx_wt (g4 := g4) hT hs N he fun rw' ft' hV => ⟨W + 1, ?_⟩
  exact lx_words8 (M := lx_M C P Q e s) (A := A) hT hs hR hA hV hW hWs hb (hp rw' ft') W 0 (by omega)
theorem lx_begin {post : Int32 → SY → Prop} {C P Q : Nat → Nat} {e : Nat → Nat → Prop} {A : Nat → Nat} {T s R W : Nat} {x : Int32} (hT : T ≤ 40) (hs : s ≤ 30) (hR : R ≤ 5) (hA : ∀ r, r < R → ru r = nI (A r) ∧ A r < T)
    (N : ∀ t, t < T → lx_NY c le ri C P Q t) (he : ∀ t i, i < s → (tx i = l t ↔ e t i))
    (hW : W ≤ 30) (hWs : lx_b (lx_E (lx_M C P Q e s) A R s) W = s) (hb : ∀ v, v < W → lx_b (lx_E (lx_M C P Q e s) A R s) v < s)
    (h1 : ∀ rw' ft' m, (∀ t i j, t < T → i ≤ s → j ≤ s → lx_V (lx_M C P Q e s) ft' t i j) → m < W → x = nI m → post (nI (lx_b (lx_E (lx_M C P Q e s) A R s) m)) (nI T, g1, nI R, nI s, nI s, c, l, le, ri, st, ru, tx, rw', ft', 38440))
    (h0 : ∀ rw' ft', (x < 0 ∨ nI W ≤ x) → post (-1) (nI T, g1, nI R, nI s, nI s, c, l, le, ri, st, ru, tx, rw', ft', 38440)) :
    wpY_begin post (nI T, g1, nI R, nI s, g4, c, l, le, ri, st, ru, tx, rw, ft, 38440) x := by
  refine lx_wt (g4 := g4) hT hs N he fun rw' ft' hV => ?_
  by_cases h : x < 0
  · exact br_f (fun z => Int32.not_lt.mpr z h) (h0 rw' ft' (Or.inl h))
  · refine br_t (Int32.not_lt.mp h) ?_
    obtain ⟨m, hm, rfl⟩ := nI_of h
    exact ⟨W + 1, lx_begin14 (M := lx_M C P Q e s) (A := A) hT hs hR hA hV hW hWs hb hm (fun z => h1 rw' ft' m hV z rfl) (fun z => h0 rw' ft' (Or.inr (nI_le z hm))) W 0 (by omega) (by omega)⟩
end
