/-- how many parts a token takes -/
def lx_pt (k : Nat) : Nat := if k ≤ 2 then 0 else if k ≤ 4 then 2 else 1
theorem lx_pt_c {k : Nat} (hk : k < 8) : (k ≤ 2 ∧ lx_pt k = 0) ∨ ((k = 3 ∨ k = 4) ∧ lx_pt k = 2) ∨ ((k = 5 ∨ k = 6 ∨ k = 7) ∧ lx_pt k = 1) := by
  unfold lx_pt
  split
  · omega
  · split
    · omega
    · omega
theorem lx_partsOf {post : Int32 → Prop} {k : Nat} (hk : k < 8) (hp : post (nI (lx_pt k))) : wpX_partsOf post (nI k) := by
  have h : k = 0 ∨ k = 1 ∨ k = 2 ∨ k = 3 ∨ k = 4 ∨ k = 5 ∨ k = 6 ∨ k = 7 := by omega
  rcases h with h | h | h | h | h | h | h | h <;> subst h
  · exact br_t (by decide) hp
  · exact br_t (by decide) hp
  · exact br_t (by decide) hp
  · exact br_f (by decide) (br_f (by decide) (br_t (by decide) hp))
  · exact br_f (by decide) (br_f (by decide) (br_f (by decide) (br_t (by decide) hp)))
  · exact br_f (by decide) (br_f (by decide) (br_f (by decide) (br_f (by decide) (br_t (by decide) hp))))
  · exact br_f (by decide) (br_f (by decide) (br_f (by decide) (br_f (by decide) (br_f (by decide) (br_t (by decide) hp)))))
  · exact br_f (by decide) (br_f (by decide) (br_f (by decide) (br_f (by decide) (br_f (by decide) (br_f (by decide) (br_t (by decide) hp))))))
theorem lx_takes {post : Int32 → Prop} {k : Nat} (hk : k < 8) (hp : post (nI (lx_pt k))) : wpY_takes post (nI k) := by
  have h : k = 0 ∨ k = 1 ∨ k = 2 ∨ k = 3 ∨ k = 4 ∨ k = 5 ∨ k = 6 ∨ k = 7 := by omega
  rcases h with h | h | h | h | h | h | h | h <;> subst h
  · exact br_f (by decide) hp
  · exact br_f (by decide) hp
  · exact br_f (by decide) hp
  · exact br_t (by decide) (br_f (by decide) hp)
  · exact br_t (by decide) (br_f (by decide) hp)
  · exact br_t (by decide) (br_t (by decide) hp)
  · exact br_t (by decide) (br_t (by decide) hp)
  · exact br_t (by decide) (br_t (by decide) hp)
theorem lx_big {x : Int32} (h : nI 8 ≤ x) : ¬ x < 0 ∧ 7 < x := by
  rw [Int32.le_iff_toInt_le, show (nI 8).toInt = 8 by decide] at h
  rw [Int32.lt_iff_toInt_lt, Int32.lt_iff_toInt_lt, show (0 : Int32).toInt = 0 by decide, show (7 : Int32).toInt = 7 by decide]
  omega
section
variable {f0 f1 f2 f3 f4 : Int32} {c l fi se st ru tx en ws wl cn : Nat → Int32}
theorem lx_can {post : Int32 → Prop} {T H R k : Nat} (hk : k < 8) (hT : T ≤ 40) (hH : H ≤ 40) (hR : R ≤ 5) (h1 : T < 40 → (k = 7 → R < 5) → lx_pt k ≤ H → post 1) (h0 : ¬ (T < 40 ∧ (k = 7 → R < 5) ∧ lx_pt k ≤ H) → post 0) :
    wpX_canTake post (nI T, nI H, nI R, f3, f4, c, l, fi, se, st, ru, tx, en, ws, wl, cn) (nI k) := by
  have hp2 := lx_pt_c hk
  have h37 : T < 40 → (k = 7 → R < 5) → wX_canTake_37 post (nI k) (nI T) (nI H) (nI R) f3 f4 c l fi se st ru tx en ws wl cn := fun a b => lx_partsOf hk (pk_lt H (lx_pt k) (fun z => h0 (by omega)) (fun z => h1 a b z))
  refine br_f (nI_pos (by omega)) (br_f (nI_nlt (a := 7) (b := k) (by omega) (by omega)) ?_)
  exact pk_lt T 40 (fun a => pk_eq k 7 (fun b => pk_lt R 5 (fun d => h37 a (fun _ => d)) (fun d => h0 (by omega))) (fun b => h37 a (fun z => absurd z b))) (fun a => h0 (by omega))
theorem lx_t93 {post : Int32 → SX → Prop} {k H T R : Nat} {z0 : Int32} (hk : k < 8) (hT : T < 40) (hH : H < 40)
    (h7 : k = 7 → R < 5 ∧ post (nI H) (nI (T + 1), nI H, nI (R + 1), f3, f4, c, l, fi, upd se T z0, st, upd ru R (fi T), tx, en, ws, wl, cn))
    (hp : k ≠ 7 → post (nI (H + 1)) (nI (T + 1), nI (H + 1), nI R, f3, f4, c, l, fi, upd se T z0, upd st H (nI T), ru, tx, en, ws, wl, cn)) :
    wX_token_93 post (nI k) (nI H) (nI T) z0 (nI T) f0 f1 (nI R) f3 f4 c l fi se st ru tx en ws wl cn := by
  unfold wX_token_93
  rw [nI_clamp (show T < 2 ^ 31 by omega), nI_clamp (show H < 2 ^ 31 by omega)]
  refine ⟨vp_in_nI hT (by omega), nm_e (nm_r (nI_1 T) (pk_eq k 7 (fun z => ?_) (fun z => ?_)))⟩
  · have h := h7 z
    refine ⟨vp_in_nI hT (by omega), vp_in_nI h.1 (by omega), ?_⟩
    exact nm_r (e' := upd ru R (fi T)) (by rw [nI_clamp (by omega)]) (nm_r (nI_1 R) h.2)
  · exact ⟨vp_in_nI hH (by omega), nm_e (nm_r (nI_1 H) (hp z))⟩
theorem lx_t68 {post : Int32 → SX → Prop} {k p H T R : Nat} {z0 : Int32} (hk : k < 8) (hT : T < 40) (hH : H < 40) (hp1 : p ≤ 2) (hp2 : 1 < p → H + 1 < 40)
    (h7 : k = 7 → R < 5 ∧ post (nI H) (nI (T + 1), nI H, nI (R + 1), f3, f4, c, l, upd fi T z0, upd se T (if p = 2 then st (H + 1) else 0), st, upd ru R z0, tx, en, ws, wl, cn))
    (hp : k ≠ 7 → post (nI (H + 1)) (nI (T + 1), nI (H + 1), nI R, f3, f4, c, l, upd fi T z0, upd se T (if p = 2 then st (H + 1) else 0), upd st H (nI T), ru, tx, en, ws, wl, cn)) :
    wX_token_68 post (nI k) (nI p) (nI H) (nI T) z0 (nI T) f0 f1 (nI R) f3 f4 c l fi se st ru tx en ws wl cn := by
  refine ⟨vp_in_nI hT (by omega), nm_r (e' := upd fi T z0) (by rw [nI_clamp (by omega)]) (pk_le p 1 (fun z => ?_) (fun z => ?_))⟩
  · rw [if_neg (show ¬ p = 2 by omega)] at h7 hp
    exact lx_t93 hk hT hH (fun y => ⟨(h7 y).1, by rw [pk_us]; exact (h7 y).2⟩) hp
  · rw [if_pos (show p = 2 by omega)] at h7 hp
    rw [nI_1, nI_clamp (show H + 1 < 2 ^ 31 by omega)]
    exact ⟨vp_in_nI (hp2 z) (by omega), lx_t93 hk hT hH (fun y => ⟨(h7 y).1, by rw [pk_us]; exact (h7 y).2⟩) hp⟩
theorem lx_tokX {post : Int32 → SX → Prop} {k T H R : Nat} {v2 : Int32} (hk : k < 8) (hT : T ≤ 40) (hH : H ≤ T) (hR : R ≤ 5)
    (h0 : ¬ (T < 40 ∧ (k = 7 → R < 5) ∧ lx_pt k ≤ H) → post (-1) (nI T, nI H, nI R, f3, f4, c, l, fi, se, st, ru, tx, en, ws, wl, cn))
    (h7 : T < 40 → R < 5 → lx_pt k ≤ H → k = 7 → post (nI (H - lx_pt k)) (nI (T + 1), nI (H - lx_pt k), nI (R + 1), f3, f4, upd c T (nI k), upd l T (v2 &&& 3), upd fi T (if lx_pt k = 0 then 0 else st (H - lx_pt k)), upd se T (if lx_pt k = 2 then st (H - lx_pt k + 1) else 0), st, upd ru R (if lx_pt k = 0 then 0 else st (H - lx_pt k)), tx, en, ws, wl, cn))
    (hp : T < 40 → lx_pt k ≤ H → k ≠ 7 → post (nI (H - lx_pt k + 1)) (nI (T + 1), nI (H - lx_pt k + 1), nI R, f3, f4, upd c T (nI k), upd l T (v2 &&& 3), upd fi T (if lx_pt k = 0 then 0 else st (H - lx_pt k)), upd se T (if lx_pt k = 2 then st (H - lx_pt k + 1) else 0), upd st (H - lx_pt k) (nI T), ru, tx, en, ws, wl, cn)) :
    wpX_token post (nI T, nI H, nI R, f3, f4, c, l, fi, se, st, ru, tx, en, ws, wl, cn) (nI k) v2 := by
  have hc := lx_pt_c hk
  unfold wpX_token
  dsimp only
  refine lx_can hk hT (by omega) hR (fun a b d => br_f (by decide) ?_) (fun a => br_t rfl (h0 a))
  refine lx_partsOf hk (nm_r (pk_sub d) ?_)
  rw [nI_clamp (show T < 2 ^ 31 by omega)]
  refine ⟨vp_in_nI a (by omega), nm_e ⟨vp_in_nI a (by omega), nm_e ?_⟩⟩
  refine pk_le (lx_pt k) 0 (fun z => ?_) (fun z => ⟨vp_in_nI (by omega) (by omega), ?_⟩)
  · rw [if_pos (show lx_pt k = 0 by omega)] at h7 hp
    exact lx_t68 hk a (by omega) (by omega) (by omega) (fun y => ⟨b y, h7 a (b y) d y⟩) (fun y => hp a d y)
  · rw [if_neg (show ¬ lx_pt k = 0 by omega)] at h7 hp
    rw [nI_clamp (show H - lx_pt k < 2 ^ 31 by omega)]
    exact lx_t68 hk a (by omega) (by omega) (by omega) (fun y => ⟨b y, h7 a (b y) d y⟩) (fun y => hp a d y)
end
section
variable {g0 g1 g2 g3 g4 : Int32} {c l le ri st ru tx rw ft : Nat → Int32}
theorem lx_t123 {post : Int32 → SY → Prop} {k H T R : Nat} (hk : k < 8) (hT : T < 40) (hH : H ≤ T) (hpt : lx_pt k ≤ H)
    (h7 : k = 7 → R < 5 ∧ post (nI (H - lx_pt k)) (nI (T + 1), nI (H - lx_pt k), nI (R + 1), g3, g4, c, l, le, ri, st, upd ru R (ri T), tx, rw, ft, 38440))
    (hp : k ≠ 7 → post (nI (H - lx_pt k + 1)) (nI (T + 1), nI (H - lx_pt k + 1), nI R, g3, g4, c, l, le, ri, upd st (H - lx_pt k) (nI T), ru, tx, rw, ft, 38440)) :
    wY_token_123 post (nI k) (nI T) (nI H) (nI R) g3 g4 c l le ri st ru tx rw ft 38440 := by
  refine lx_takes hk (nm_r (pk_sub hpt) (pk_eq k 7 (fun z => ?_) (fun z => ?_)))
  · have h := h7 z
    refine ⟨vp_in_nI hT (by omega), vp_in_nI h.1 (by omega), ?_⟩
    exact nm_r (e' := upd ru R (ri T)) (by rw [nI_clamp (by omega), nI_clamp (by omega)]) (nm_r (nI_1 R) (nm_r (nI_1 T) h.2))
  · refine ⟨vp_in_nI (by omega) (by omega), ?_⟩
    exact nm_r (e' := upd st (H - lx_pt k) (nI T)) (by rw [nI_clamp (by omega)]) (nm_r (nI_1 _) (nm_r (nI_1 T) (hp z)))
theorem lx_t95 {post : Int32 → SY → Prop} {k H T : Nat} (hk : k < 8) (hT : T < 40) (hH : H ≤ T) (hpt : lx_pt k ≤ H)
    (h : wY_token_123 post (nI k) (nI T) (nI H) g2 g3 g4 c l (if lx_pt k = 2 then upd le T (st (H - 2)) else le) ri st ru tx rw ft 38440) :
    wY_token_95 post (nI k) (nI T) (nI H) g2 g3 g4 c l le ri st ru tx rw ft 38440 := by
  have hc := lx_pt_c hk
  refine lx_takes hk (pk_eq (lx_pt k) 2 (fun z => ?_) (fun z => ?_))
  · rw [if_pos z] at h
    rw [show nI H - 2 = nI (H - 2) from pk_sub (b := 2) (by omega)]
    refine ⟨vp_in_nI (by omega) (by omega), vp_in_nI hT (by omega), ?_⟩
    exact nm_r (e' := upd le T (st (H - 2))) (by rw [nI_clamp (by omega), nI_clamp (by omega)]) h
  · rw [if_neg z] at h
    exact h
theorem lx_t46 {post : Int32 → SY → Prop} {k H T R : Nat} {v2 : Int32} (hk : k < 8) (hT : T < 40) (hH : H ≤ T) (hpt : lx_pt k ≤ H)
    (h7 : k = 7 → R < 5 ∧ post (nI (H - lx_pt k)) (nI (T + 1), nI (H - lx_pt k), nI (R + 1), g3, g4, upd c T (nI k), upd l T (v2 &&& 3), if lx_pt k = 2 then upd le T (st (H - 2)) else le, if lx_pt k = 0 then ri else upd ri T (st (H - 1)), st, upd ru R (if lx_pt k = 0 then ri T else st (H - 1)), tx, rw, ft, 38440))
    (hp : k ≠ 7 → post (nI (H - lx_pt k + 1)) (nI (T + 1), nI (H - lx_pt k + 1), nI R, g3, g4, upd c T (nI k), upd l T (v2 &&& 3), if lx_pt k = 2 then upd le T (st (H - 2)) else le, if lx_pt k = 0 then ri else upd ri T (st (H - 1)), upd st (H - lx_pt k) (nI T), ru, tx, rw, ft, 38440)) :
    wY_token_46 post (nI k) v2 (nI T) (nI H) (nI R) g3 g4 c l le ri st ru tx rw ft 38440 := by
  have hc := lx_pt_c hk
  unfold wY_token_46
  rw [nI_clamp (show T < 2 ^ 31 by omega)]
  refine ⟨vp_in_nI hT (by omega), nm_e ⟨vp_in_nI hT (by omega), nm_e ?_⟩⟩
  refine lx_takes hk (pk_le (lx_pt k) 0 (fun z => ?_) (fun z => ?_))
  · have e0 : lx_pt k = 0 := by omega
    rw [if_pos e0, if_pos e0] at h7
    rw [if_pos e0] at hp
    exact lx_t95 hk hT hH hpt (lx_t123 hk hT hH hpt h7 hp)
  · have e0 : ¬ lx_pt k = 0 := by omega
    rw [if_neg e0, if_neg e0] at h7
    rw [if_neg e0] at hp
    rw [show nI H - 1 = nI (H - 1) from pk_sub (b := 1) (by omega), nI_clamp (show H - 1 < 2 ^ 31 by omega)]
    refine ⟨vp_in_nI (by omega) (by omega), vp_in_nI hT (by omega), nm_e ?_⟩
    exact lx_t95 hk hT hH hpt (lx_t123 hk hT hH hpt (fun y => ⟨(h7 y).1, by rw [pk_us]; exact (h7 y).2⟩) hp)
theorem lx_tokY {post : Int32 → SY → Prop} {k T H R : Nat} {v2 : Int32} (hk : k < 8) (hT : T ≤ 40) (hH : H ≤ T) (hR : R ≤ 5)
    (h0 : ¬ (T < 40 ∧ (k = 7 → R < 5) ∧ lx_pt k ≤ H) → post (-1) (nI T, nI H, nI R, g3, g4, c, l, le, ri, st, ru, tx, rw, ft, 38440))
    (h1 : T < 40 → (k = 7 → R < 5) → lx_pt k ≤ H → wY_token_46 post (nI k) v2 (nI T) (nI H) (nI R) g3 g4 c l le ri st ru tx rw ft 38440) :
    wpY_token post (nI T, nI H, nI R, g3, g4, c, l, le, ri, st, ru, tx, rw, ft, 38440) (nI k) v2 := by
  have hc := lx_pt_c hk
  refine br_f (nI_pos (by omega)) (br_f (nI_nlt (a := 7) (b := k) (by omega) (by omega)) (lx_takes hk ?_))
  exact pk_lt H (lx_pt k) (fun z => h0 (by omega)) (fun z => pk_eq T 40 (fun a => h0 (by omega)) (fun a => pk_eq k 7 (fun b => pk_eq R 5 (fun d => h0 (by omega)) (fun d => h1 (by omega) (fun _ => by omega) z)) (fun b => h1 (by omega) (fun y => absurd y b) z)))
end
