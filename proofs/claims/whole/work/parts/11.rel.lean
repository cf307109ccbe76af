/-- the two sides' node t: code k, parts p and q -/
def lx_Nd (c fi se le ri : Nat → Int32) (t : Nat) : Prop :=
  ∃ k p q : Nat, c t = nI k ∧ k < 8 ∧ fi t = nI p ∧ p < 40 ∧ (k = 3 ∨ k = 4 → p < t ∧ q < t ∧ se t = nI q ∧ le t = nI p ∧ ri t = nI q) ∧ (k = 5 ∨ k = 6 → p < t ∧ ri t = nI p)
def lx_OK (T H R L : Nat) (c fi se le ri st ru : Nat → Int32) : Prop :=
  T ≤ 40 ∧ H ≤ T ∧ R ≤ 5 ∧ L ≤ 30 ∧ (∀ t, t < T → lx_Nd c fi se le ri t) ∧ (∀ h, h < H → ∃ a, a < T ∧ st h = nI a) ∧ (∀ r, r < R → ∃ a, a < T ∧ ru r = nI a)
def lx_cl (f : Nat → Int32) (t : Nat) : Nat := (f t).toNatClampNeg
theorem lx_cl_e {f : Nat → Int32} {t a : Nat} (h : f t = nI a) (ha : a < 2 ^ 31) : lx_cl f t = a := by
  unfold lx_cl; rw [h, nI_clamp ha]
theorem lx_nd {c fi se le ri : Nat → Int32} {t : Nat} (ht : t < 40) (h : lx_Nd c fi se le ri t) : lx_NX c fi se (lx_cl c) (lx_cl fi) (lx_cl se) t ∧ lx_NY c le ri (lx_cl c) (lx_cl fi) (lx_cl se) t := by
  obtain ⟨k, p, q, hc, hk, hf, hp, h34, h56⟩ := h
  have e1 := lx_cl_e hc (by omega)
  have e2 := lx_cl_e hf (by omega)
  unfold lx_NX lx_NY
  rw [e1, e2]
  refine ⟨⟨hc, hk, hf, hp, fun z => ?_, fun z => (h56 z).1⟩, hc, hk, fun z => ?_, h56⟩
  · obtain ⟨a, b, d, _⟩ := h34 z
    rw [lx_cl_e d (by omega)]
    exact ⟨a, b, d⟩
  · obtain ⟨a, b, d, f⟩ := h34 z
    rw [lx_cl_e d (by omega)]
    exact ⟨a, b, f⟩
theorem lx_ru {T R : Nat} {ru : Nat → Int32} (hT : T ≤ 40) (h : ∀ r, r < R → ∃ a, a < T ∧ ru r = nI a) : ∀ r, r < R → ru r = nI (lx_cl ru r) ∧ lx_cl ru r < T := by
  intro r hr
  obtain ⟨a, ha, e⟩ := h r hr
  rw [lx_cl_e e (by omega)]
  exact ⟨e, ha⟩
theorem lx_nd_tok {c fi se le ri st : Nat → Int32} {T H k : Nat} (hk : k < 8) (hT : T < 40) (hpt : lx_pt k ≤ H) (hN : ∀ t, t < T → lx_Nd c fi se le ri t) (hS : ∀ h, h < H → ∃ a, a < T ∧ st h = nI a) :
    ∀ t, t < T + 1 → lx_Nd (upd c T (nI k)) (upd fi T (if lx_pt k = 0 then 0 else st (H - lx_pt k))) (upd se T (if lx_pt k = 2 then st (H - lx_pt k + 1) else 0)) (if lx_pt k = 2 then upd le T (st (H - 2)) else le) (if lx_pt k = 0 then ri else upd ri T (st (H - 1))) t := by
  intro t ht
  by_cases h : t = T
  · subst h
    unfold lx_Nd
    rw [pk_us, pk_us, pk_us]
    rcases lx_pt_c hk with ⟨hc, e⟩ | ⟨hc, e⟩ | ⟨hc, e⟩
    · exact ⟨k, 0, 0, rfl, hk, if_pos e, by omega, fun z => by omega, fun z => by omega⟩
    · rw [e] at hpt ⊢
      obtain ⟨a, ha, ea⟩ := hS (H - 2) (by omega)
      obtain ⟨b, hb, eb⟩ := hS (H - 1) (by omega)
      rw [if_neg (by decide), if_pos rfl, if_pos rfl, if_neg (by decide), pk_us, pk_us, show H - 2 + 1 = H - 1 by omega]
      exact ⟨k, a, b, rfl, hk, ea, by omega, fun z => ⟨ha, hb, eb, ea, eb⟩, fun z => by omega⟩
    · rw [e] at hpt ⊢
      obtain ⟨a, ha, ea⟩ := hS (H - 1) (by omega)
      rw [if_neg (by decide), if_neg (by decide), if_neg (by decide), if_neg (by decide), pk_us]
      exact ⟨k, a, 0, rfl, hk, ea, by omega, fun z => by omega, fun z => ⟨ha, ea⟩⟩
  · have hle : (if lx_pt k = 2 then upd le T (st (H - 2)) else le) t = le t := by
      split
      · exact pk_un h
      · rfl
    have hri : (if lx_pt k = 0 then ri else upd ri T (st (H - 1))) t = ri t := by
      split
      · rfl
      · exact pk_un h
    unfold lx_Nd
    rw [pk_un h, pk_un h, pk_un h, hle, hri]
    exact hN t (by omega)
theorem lx_OK_n {c fi se le ri st ru : Nat → Int32} {T H R L k : Nat} (h : lx_OK T H R L c fi se le ri st ru) (hk : k < 8) (hT : T < 40) (hpt : lx_pt k ≤ H) :
    lx_OK (T + 1) (H - lx_pt k + 1) R L (upd c T (nI k)) (upd fi T (if lx_pt k = 0 then 0 else st (H - lx_pt k))) (upd se T (if lx_pt k = 2 then st (H - lx_pt k + 1) else 0)) (if lx_pt k = 2 then upd le T (st (H - 2)) else le) (if lx_pt k = 0 then ri else upd ri T (st (H - 1))) (upd st (H - lx_pt k) (nI T)) ru := by
  obtain ⟨h1, h2, h3, h4, hN, hS, hR⟩ := h
  refine ⟨by omega, by omega, h3, h4, lx_nd_tok hk hT hpt hN hS, fun i hi => ?_, fun r hr => ?_⟩
  · by_cases e : i = H - lx_pt k
    · subst e
      exact ⟨T, by omega, pk_us⟩
    · obtain ⟨a, ha, ea⟩ := hS i (by omega)
      exact ⟨a, by omega, by rw [pk_un e]; exact ea⟩
  · obtain ⟨a, ha, ea⟩ := hR r hr
    exact ⟨a, by omega, ea⟩
theorem lx_OK_7 {c fi se le ri st ru : Nat → Int32} {T H R L k : Nat} (h : lx_OK T H R L c fi se le ri st ru) (hk : k = 7) (hT : T < 40) (hR5 : R < 5) (hpt : lx_pt k ≤ H) :
    lx_OK (T + 1) (H - lx_pt k) (R + 1) L (upd c T (nI k)) (upd fi T (if lx_pt k = 0 then 0 else st (H - lx_pt k))) (upd se T (if lx_pt k = 2 then st (H - lx_pt k + 1) else 0)) (if lx_pt k = 2 then upd le T (st (H - 2)) else le) (if lx_pt k = 0 then ri else upd ri T (st (H - 1))) st (upd ru R (st (H - 1))) := by
  obtain ⟨h1, h2, h3, h4, hN, hS, hR⟩ := h
  have hc := lx_pt_c (k := k) (by omega)
  refine ⟨by omega, by omega, by omega, h4, lx_nd_tok (by omega) hT hpt hN hS, fun i hi => ?_, fun r hr => ?_⟩
  · obtain ⟨a, ha, ea⟩ := hS i (by omega)
    exact ⟨a, by omega, ea⟩
  · by_cases e : r = R
    · subst e
      obtain ⟨a, ha, ea⟩ := hS (H - 1) (by omega)
      exact ⟨a, by omega, by rw [pk_us]; exact ea⟩
    · obtain ⟨a, ha, ea⟩ := hR r (by omega)
      exact ⟨a, by omega, by rw [pk_un e]; exact ea⟩
