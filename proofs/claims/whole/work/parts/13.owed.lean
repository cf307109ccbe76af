/-- what both keep alike is one function; what a query works out is free -/
def i_Rel (_ : Nat) (u : SX) (v : SY) : Prop :=
  ∃ (T H R L : Nat) (f4 g4 : Int32) (c l fi se le ri st ru tx en ws wl cn rw ft : Nat → Int32), lx_OK T H R L c fi se le ri st ru ∧
    u = (nI T, nI H, nI R, nI L, f4, c, l, fi, se, st, ru, tx, en, ws, wl, cn) ∧ v = (nI T, nI H, nI R, nI L, g4, c, l, le, ri, st, ru, tx, rw, ft, 38440)
theorem lx_rel {k T H R L : Nat} {f4 g4 : Int32} {c l fi se le ri st ru tx en ws wl cn rw ft : Nat → Int32} (h : lx_OK T H R L c fi se le ri st ru) :
    i_Rel k (nI T, nI H, nI R, nI L, f4, c, l, fi, se, st, ru, tx, en, ws, wl, cn) (nI T, nI H, nI R, nI L, g4, c, l, le, ri, st, ru, tx, rw, ft, 38440) :=
  ⟨T, H, R, L, f4, g4, c, l, fi, se, le, ri, st, ru, tx, en, ws, wl, cn, rw, ft, h, rfl, rfl⟩
theorem i_up {k : Nat} {u : SX} {v : SY} (h : i_Rel k u v) : i_Rel (k + 3) u v := h
theorem i_vc0 : wpX_init (fun u => wpY_init (fun v => i_Rel 0 u v)) := by
  refine ⟨by decide, nm_r (e' := 38440) (nI_clamp (n := 38440) (by omega)) ⟨Nat.le_refl _, ?_⟩⟩
  exact lx_rel (T := 0) (H := 0) (R := 0) (L := 0) ⟨by omega, by omega, by omega, by omega, fun t h => absurd h (Nat.not_lt_zero _), fun t h => absurd h (Nat.not_lt_zero _), fun t h => absurd h (Nat.not_lt_zero _)⟩
theorem i_vc_token {k : Nat} {u : SX} {v : SY} (I : i_Rel k u v) (hk : k + 3 ≤ 1536) (v1 : Int32) (v2 : Int32) : wpX_token (fun r u' => wpY_token (fun r' v' => r' = r ∧ i_Rel (k + 3) u' v') v v1 v2) u v1 v2 := by
  obtain ⟨T, H, R, L, f4, g4, c, l, fi, se, le, ri, st, ru, tx, en, ws, wl, cn, rw, ft, hO, rfl, rfl⟩ := I
  rcases pk_ix v1 (n := 8) (by omega) with h | h | ⟨j, hj, rfl⟩
  · unfold wpX_token
    dsimp only
    exact br_t h (br_t rfl (br_t h ⟨rfl, lx_rel hO⟩))
  · unfold wpX_token
    dsimp only
    have hb := lx_big h
    exact br_f hb.1 (br_t hb.2 (br_t rfl (br_f hb.1 (br_t hb.2 ⟨rfl, lx_rel hO⟩))))
  · have hO' := hO
    obtain ⟨h1, h2, h3, h4, hN, hS, hR⟩ := hO'
    have hc := lx_pt_c hj
    refine lx_tokX hj h1 h2 h3 (fun z => ?_) (fun a b d z => ?_) (fun a d z => ?_)
    · exact lx_tokY hj h1 h2 h3 (fun _ => ⟨rfl, lx_rel hO⟩) (fun a b d => absurd ⟨a, b, d⟩ z)
    · refine lx_tokY hj h1 h2 h3 (fun y => absurd ⟨a, fun _ => b, d⟩ y) (fun _ _ _ => ?_)
      refine lx_t46 hj a h2 d (fun _ => ⟨b, rfl, ?_⟩) (fun y => absurd z y)
      have e1 : lx_pt j = 1 := by omega
      have e2 : (if lx_pt j = 0 then (0 : Int32) else st (H - lx_pt j)) = st (H - 1) := by rw [e1]; rfl
      have e3 : (if lx_pt j = 0 then ri T else st (H - 1)) = st (H - 1) := by rw [e1]; rfl
      have hr := lx_rel (k := k + 3) (f4 := f4) (g4 := g4) (l := upd l T (v2 &&& 3)) (tx := tx) (en := en) (ws := ws) (wl := wl) (cn := cn) (rw := rw) (ft := ft) (lx_OK_7 hO z a b d)
      rw [e3]
      rw [e2] at hr ⊢
      exact hr
    · refine lx_tokY hj h1 h2 h3 (fun y => absurd ⟨a, fun x => absurd x z, d⟩ y) (fun _ _ _ => ?_)
      exact lx_t46 hj a h2 d (fun y => absurd y z) (fun _ => ⟨rfl, lx_rel (lx_OK_n hO hj a d)⟩)
theorem i_vc_clear {k : Nat} {u : SX} {v : SY} (I : i_Rel k u v) (hk : k + 3 ≤ 1536) : wpX_clear (fun u' => wpY_clear (fun v' => i_Rel (k + 3) u' v') v) u := by
  obtain ⟨T, H, R, L, f4, g4, c, l, fi, se, le, ri, st, ru, tx, en, ws, wl, cn, rw, ft, hO, rfl, rfl⟩ := I
  exact lx_rel (k := k + 3) (T := 0) (H := 0) (R := 0) ⟨by omega, by omega, by omega, hO.2.2.2.1, fun t h => absurd h (Nat.not_lt_zero _), fun t h => absurd h (Nat.not_lt_zero _), fun t h => absurd h (Nat.not_lt_zero _)⟩
theorem i_vc_type {k : Nat} {u : SX} {v : SY} (I : i_Rel k u v) (hk : k + 3 ≤ 1536) (v1 : Int32) : wpX_type (fun r u' => wpY_type (fun r' v' => r' = r ∧ i_Rel (k + 3) u' v') v v1) u v1 := by
  obtain ⟨T, H, R, L, f4, g4, c, l, fi, se, le, ri, st, ru, tx, en, ws, wl, cn, rw, ft, hO, rfl, rfl⟩ := I
  have hO' := hO
  obtain ⟨h1, h2, h3, h4, h5⟩ := hO'
  refine pk_lt L 30 (fun z => ?_) (fun z => ?_)
  · refine ⟨vp_in_nI z (by omega), nm_r (e' := upd tx L (v1 &&& 3)) (by rw [nI_clamp (by omega)]) (nm_r (nI_1 L) ?_)⟩
    refine pk_eq L 30 (fun y => by omega) (fun y => ?_)
    refine ⟨vp_in_nI z (by omega), nm_r (e' := upd tx L (v1 &&& 3)) (by rw [nI_clamp (by omega)]) (nm_r (nI_1 L) ⟨rfl, ?_⟩)⟩
    exact lx_rel (L := L + 1) ⟨h1, h2, h3, z, h5⟩
  · exact pk_eq L 30 (fun y => ⟨rfl, lx_rel hO⟩) (fun y => by omega)
theorem i_vc_erase {k : Nat} {u : SX} {v : SY} (I : i_Rel k u v) (hk : k + 3 ≤ 1536) : wpX_erase (fun u' => wpY_erase (fun v' => i_Rel (k + 3) u' v') v) u := by
  obtain ⟨T, H, R, L, f4, g4, c, l, fi, se, le, ri, st, ru, tx, en, ws, wl, cn, rw, ft, hO, rfl, rfl⟩ := I
  obtain ⟨h1, h2, h3, h4, h5⟩ := hO
  exact lx_rel (k := k + 3) (L := 0) ⟨h1, h2, h3, by omega, h5⟩
theorem i_vc_words {k : Nat} {u : SX} {v : SY} (I : i_Rel k u v) (hk : k + 3 ≤ 1536) : wpX_words (fun r u' => wpY_words (fun r' v' => r' = r ∧ i_Rel (k + 3) u' v') v) u := by
  obtain ⟨T, H, R, L, f4, g4, c, l, fi, se, le, ri, st, ru, tx, en, ws, wl, cn, rw, ft, hO, rfl, rfl⟩ := I
  have hO' := hO
  obtain ⟨h1, h2, h3, h4, hN, hS, hR⟩ := hO'
  unfold wpX_words
  dsimp only
  refine lx_cut (e := fun t i => tx i = l t) h1 h4 h3 (lx_ru h1 hR) (fun t h => (lx_nd (by omega) (hN t h)).1) (fun _ _ _ => Iff.rfl) fun en' w ws' wl' hw hws hv => ?_
  exact lx_words (e := fun t i => tx i = l t) h1 h4 h3 (lx_ru h1 hR) (fun t h => (lx_nd (by omega) (hN t h)).2) (fun _ _ _ => Iff.rfl) hw hws (fun v z => (hv v z).1) fun rw' ft' => ⟨rfl, lx_rel hO⟩
theorem i_vc_sort {k : Nat} {u : SX} {v : SY} (I : i_Rel k u v) (hk : k + 3 ≤ 1536) (v1 : Int32) : wpX_sort (fun r u' => wpY_sort (fun r' v' => r' = r ∧ i_Rel (k + 3) u' v') v v1) u v1 := by
  obtain ⟨T, H, R, L, f4, g4, c, l, fi, se, le, ri, st, ru, tx, en, ws, wl, cn, rw, ft, hO, rfl, rfl⟩ := I
  have hO' := hO
  obtain ⟨h1, h2, h3, h4, hN, hS, hR⟩ := hO'
  refine lx_sortX (e := fun t i => tx i = l t) h1 h4 h3 (lx_ru h1 hR) (fun t h => (lx_nd (by omega) (hN t h)).1) (fun _ _ _ => Iff.rfl) (fun en' w ws' wl' m hw hws hb hm e => ?_) (fun en' w ws' wl' hw hws hb hx => ?_)
  · refine lx_sortY (e := fun t i => tx i = l t) h1 h4 h3 (lx_ru h1 hR) (fun t h => (lx_nd (by omega) (hN t h)).2) (fun _ _ _ => Iff.rfl) hw hws hb (fun rw' ft' m' hm' e' => ?_) (fun rw' ft' hx => ?_)
    · have hmm : m' = m := (nI_eq (by omega) (by omega)).mp (e'.symm.trans e)
      subst hmm
      exact ⟨rfl, lx_rel hO⟩
    · subst e
      rcases hx with hx | hx
      · exact absurd hx (nI_pos (by omega))
      · exact absurd hx (nI_ge hm (by omega))
  · refine lx_sortY (e := fun t i => tx i = l t) h1 h4 h3 (lx_ru h1 hR) (fun t h => (lx_nd (by omega) (hN t h)).2) (fun _ _ _ => Iff.rfl) hw hws hb (fun rw' ft' m hm e => ?_) (fun rw' ft' hx => ⟨rfl, lx_rel hO⟩)
    subst e
    rcases hx with hx | hx
    · exact absurd hx (nI_pos (by omega))
    · exact absurd hx (nI_ge hm (by omega))
theorem i_vc_length {k : Nat} {u : SX} {v : SY} (I : i_Rel k u v) (hk : k + 3 ≤ 1536) (v1 : Int32) : wpX_length (fun r u' => wpY_length (fun r' v' => r' = r ∧ i_Rel (k + 3) u' v') v v1) u v1 := by
  obtain ⟨T, H, R, L, f4, g4, c, l, fi, se, le, ri, st, ru, tx, en, ws, wl, cn, rw, ft, hO, rfl, rfl⟩ := I
  have hO' := hO
  obtain ⟨h1, h2, h3, h4, hN, hS, hR⟩ := hO'
  refine lx_lengthX (e := fun t i => tx i = l t) h1 h4 h3 (lx_ru h1 hR) (fun t h => (lx_nd (by omega) (hN t h)).1) (fun _ _ _ => Iff.rfl) (fun en' w ws' wl' m hw hws hb hm e => ?_) (fun en' w ws' wl' hw hws hb hx => ?_)
  · refine lx_lengthY (e := fun t i => tx i = l t) h1 h4 h3 (lx_ru h1 hR) (fun t h => (lx_nd (by omega) (hN t h)).2) (fun _ _ _ => Iff.rfl) hw hws hb (fun rw' ft' m' hm' e' => ?_) (fun rw' ft' hx => ?_)
    · have hmm : m' = m := (nI_eq (by omega) (by omega)).mp (e'.symm.trans e)
      subst hmm
      exact ⟨rfl, lx_rel hO⟩
    · subst e
      rcases hx with hx | hx
      · exact absurd hx (nI_pos (by omega))
      · exact absurd hx (nI_ge hm (by omega))
  · refine lx_lengthY (e := fun t i => tx i = l t) h1 h4 h3 (lx_ru h1 hR) (fun t h => (lx_nd (by omega) (hN t h)).2) (fun _ _ _ => Iff.rfl) hw hws hb (fun rw' ft' m hm e => ?_) (fun rw' ft' hx => ⟨rfl, lx_rel hO⟩)
    subst e
    rcases hx with hx | hx
    · exact absurd hx (nI_pos (by omega))
    · exact absurd hx (nI_ge hm (by omega))
theorem i_vc_matches {k : Nat} {u : SX} {v : SY} (I : i_Rel k u v) (hk : k + 3 ≤ 1536) (v1 : Int32) : wpX_matches (fun r u' => wpY_matches (fun r' v' => r' = r ∧ i_Rel (k + 3) u' v') v v1) u v1 := by
  obtain ⟨T, H, R, L, f4, g4, c, l, fi, se, le, ri, st, ru, tx, en, ws, wl, cn, rw, ft, hO, rfl, rfl⟩ := I
  have hO' := hO
  obtain ⟨h1, h2, h3, h4, hN, hS, hR⟩ := hO'
  unfold wpX_matches
  dsimp only
  refine lx_isRule h3 (fun m hm e => br_f (by decide) ?_) (fun hx => br_t rfl ?_)
  · subst e
    refine lx_fe_text (e := fun t i => tx i = l t) h1 h4 h4 (fun t h => (lx_nd (by omega) (hN t h)).1) (fun _ _ _ => Iff.rfl) fun en' hD => ?_
    refine lx_isRow (i := 0) h1 h4 (by omega) (lx_ru h1 hR m hm).1 (lx_ru h1 hR m hm).2 (by omega) (Nat.le_refl _) hD (fun hm1 => br_f (by decide) ?_) (fun hm0 => br_t rfl ?_)
    · exact lx_matchY (e := fun t i => tx i = l t) h1 h4 h3 (lx_ru h1 hR) hm (fun t h => (lx_nd (by omega) (hN t h)).2) (fun _ _ _ => Iff.rfl) (fun _ rw' ft' => ⟨rfl, lx_rel hO⟩) (fun z => absurd hm1 z)
    · exact lx_matchY (e := fun t i => tx i = l t) h1 h4 h3 (lx_ru h1 hR) hm (fun t h => (lx_nd (by omega) (hN t h)).2) (fun _ _ _ => Iff.rfl) (fun z => absurd z hm0) (fun _ rw' ft' => ⟨rfl, lx_rel hO⟩)
  · rcases hx with hx | hx
    · exact br_t hx ⟨rfl, lx_rel hO⟩
    · exact br_f (lx_nn (by omega) hx) (br_f (Int32.not_lt.mpr hx) ⟨rfl, lx_rel hO⟩)
theorem i_vc_count {k : Nat} {u : SX} {v : SY} (I : i_Rel k u v) (hk : k + 3 ≤ 1536) (v1 : Int32) (v2 : Int32) : wpX_count (fun r u' => wpY_count (fun r' v' => r' = r ∧ i_Rel (k + 3) u' v') v v1 v2) u v1 v2 := by
  obtain ⟨T, H, R, L, f4, g4, c, l, fi, se, le, ri, st, ru, tx, en, ws, wl, cn, rw, ft, hO, rfl, rfl⟩ := I
  have hO' := hO
  obtain ⟨h1, h2, h3, h4, hN, hS, hR⟩ := hO'
  unfold wpX_count
  dsimp only
  refine lx_isRule h3 (fun m hm e => br_f (by decide) ?_) (fun hx => br_t rfl ?_)
  · subst e
    rcases pk_ix v2 (n := 5) (by omega) with h | h | ⟨n, hn, rfl⟩
    · exact br_t h (br_f (nI_pos (by omega)) (br_f (nI_ge hm (by omega)) (br_t h ⟨rfl, lx_rel hO⟩)))
    · have hb : ¬ v2 ≤ 4 := by
        rw [Int32.le_iff_toInt_le, show (nI 5).toInt = 5 by decide] at h
        rw [Int32.le_iff_toInt_le, show (4 : Int32).toInt = 4 by decide]
        omega
      exact br_f (lx_nn (by omega) h) (br_f hb (br_f (nI_pos (by omega)) (br_f (nI_ge hm (by omega)) (br_f (lx_nn (by omega) h) (br_f hb ⟨rfl, lx_rel hO⟩)))))
    · refine br_f (nI_pos (by omega)) (br_t (nI_le (b := 4) (by omega) (by omega)) (nm_r (lx_all (by omega)).1 ⟨2 ^ (2 * n) + 1, ?_⟩))
      refine lx_ct31 h1 h3 (lx_ru h1 hR) hm (by omega) (lx_all (by omega)).2 (fun t h => (lx_nd (by omega) (hN t h)).1) (fun en' cn' => ?_) (2 ^ (2 * n)) 0 en cn (by omega)
      exact lx_countY h1 h3 (lx_ru h1 hR) hm (by omega) (fun t h => (lx_nd (by omega) (hN t h)).2) fun rw' ft' => ⟨rfl, lx_rel hO⟩
  · rcases hx with hx | hx
    · exact br_t hx ⟨rfl, lx_rel hO⟩
    · exact br_f (lx_nn (by omega) hx) (br_t hx ⟨rfl, lx_rel hO⟩)
theorem i_vc_sortOf {k : Nat} {u : SX} {v : SY} (I : i_Rel k u v) (hk : k + 3 ≤ 1536) (v1 : Int32) (v2 : Int32) : wpX_sortOf (fun r u' => wpY_sortOf (fun r' v' => r' = r ∧ i_Rel (k + 3) u' v') v v1 v2) u v1 v2 := by
  obtain ⟨T, H, R, L, f4, g4, c, l, fi, se, le, ri, st, ru, tx, en, ws, wl, cn, rw, ft, hO, rfl, rfl⟩ := I
  have hO' := hO
  obtain ⟨h1, h2, h3, h4, hN, hS, hR⟩ := hO'
  by_cases z0 : v1 < 0
  · exact br_t z0 (br_t z0 ⟨rfl, lx_rel hO⟩)
  · by_cases z1 : v2 < v1
    · exact br_f z0 (br_t z1 (br_f z0 (br_t z1 ⟨rfl, lx_rel hO⟩)))
    · by_cases z2 : v2 ≤ nI L
      · obtain ⟨a, ha, rfl⟩ := nI_of z0
        obtain ⟨b, hb, rfl⟩ := nI_of (lx_nn ha (Int32.not_lt.mp z1))
        have hab : a ≤ b := (nI_leI ha hb).mp (Int32.not_lt.mp z1)
        have hbL : b ≤ L := (nI_leI hb (by omega)).mp z2
        refine br_f z0 (br_f z1 (br_t z2 ?_))
        refine lx_fe_text (e := fun t i => tx i = l t) h1 h4 h4 (fun t h => (lx_nd (by omega) (hN t h)).1) (fun _ _ _ => Iff.rfl) fun en' hD => ?_
        refine lx_leastRule h1 h4 h3 (lx_ru h1 hR) (by omega) hbL hD ?_
        exact lx_sortOfY (e := fun t i => tx i = l t) h1 h4 h3 (lx_ru h1 hR) hab hbL (fun t h => (lx_nd (by omega) (hN t h)).2) (fun _ _ _ => Iff.rfl) fun rw' ft' => ⟨rfl, lx_rel hO⟩
      · exact br_f z0 (br_f z1 (br_f z2 (br_f z0 (br_f z1 (br_f z2 ⟨rfl, lx_rel hO⟩)))))
