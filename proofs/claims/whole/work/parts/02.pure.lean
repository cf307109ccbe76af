/-- the letters i up to j of the row are a row of node t: c codes, p and q the parts, e 'the letter at i is that of node t', s the row's size -/
def lx_M (c p q : Nat → Nat) (e : Nat → Nat → Prop) (s : Nat) (t i j : Nat) : Prop :=
  (c t = 0 ∧ i < s ∧ j = i + 1 ∧ e t i) ∨
  (c t = 1 ∧ i < s ∧ j = i + 1) ∨
  (c t = 2 ∧ j = i) ∨
  (c t = 3 ∧ ∃ k, i ≤ k ∧ k ≤ s ∧ (∃ _ : p t < t, lx_M c p q e s (p t) i k) ∧ (∃ _ : q t < t, lx_M c p q e s (q t) k j)) ∨
  (c t = 4 ∧ ((∃ _ : p t < t, lx_M c p q e s (p t) i j) ∨ (∃ _ : q t < t, lx_M c p q e s (q t) i j))) ∨
  (c t = 5 ∧ (j = i ∨ ∃ k, ∃ _ : i < k ∧ k ≤ s, (∃ _ : p t < t, lx_M c p q e s (p t) i k) ∧ lx_M c p q e s t k j)) ∨
  (c t = 6 ∧ ((∃ _ : p t < t, lx_M c p q e s (p t) i j) ∨ ∃ k, ∃ _ : i < k ∧ k ≤ s, (∃ _ : p t < t, lx_M c p q e s (p t) i k) ∧ lx_M c p q e s t k j))
termination_by (t, s - i)
decreasing_by
  all_goals first
    | (apply Prod.Lex.left; assumption)
    | (apply Prod.Lex.right; omega)
section
variable {c p q : Nat → Nat} {e : Nat → Nat → Prop} {s t i j : Nat}
theorem lx_M0 (hc : c t = 0) : lx_M c p q e s t i j ↔ i < s ∧ j = i + 1 ∧ e t i := by
  rw [lx_M]; simp [hc]
theorem lx_M1 (hc : c t = 1) : lx_M c p q e s t i j ↔ i < s ∧ j = i + 1 := by
  rw [lx_M]; simp [hc]
theorem lx_M2 (hc : c t = 2) : lx_M c p q e s t i j ↔ j = i := by
  rw [lx_M]; simp [hc]
theorem lx_M3 (hc : c t = 3) (hp : p t < t) (hq : q t < t) : lx_M c p q e s t i j ↔ ∃ k, i ≤ k ∧ k ≤ s ∧ lx_M c p q e s (p t) i k ∧ lx_M c p q e s (q t) k j := by
  rw [lx_M]; simp [hc, hp, hq]
theorem lx_M4 (hc : c t = 4) (hp : p t < t) (hq : q t < t) : lx_M c p q e s t i j ↔ lx_M c p q e s (p t) i j ∨ lx_M c p q e s (q t) i j := by
  rw [lx_M]; simp [hc, hp, hq]
theorem lx_M5 (hc : c t = 5) (hp : p t < t) : lx_M c p q e s t i j ↔ j = i ∨ ∃ k, i < k ∧ k ≤ s ∧ lx_M c p q e s (p t) i k ∧ lx_M c p q e s t k j := by
  rw [lx_M]; simp [hc, hp, and_assoc]
  have h : ∀ k, (lx_M c p q e s (p t) i k ∧ i < k ∧ k ≤ s ∧ lx_M c p q e s t k j) ↔ (i < k ∧ k ≤ s ∧ lx_M c p q e s (p t) i k ∧ lx_M c p q e s t k j) := fun k => ⟨fun ⟨a, b, d, f⟩ => ⟨b, d, a, f⟩, fun ⟨b, d, a, f⟩ => ⟨a, b, d, f⟩⟩
  simp only [h]
theorem lx_M6 (hc : c t = 6) (hp : p t < t) : lx_M c p q e s t i j ↔ lx_M c p q e s (p t) i j ∨ ∃ k, i < k ∧ k ≤ s ∧ lx_M c p q e s (p t) i k ∧ lx_M c p q e s t k j := by
  rw [lx_M]; simp [hc, hp, and_assoc]
  have h : ∀ k, (lx_M c p q e s (p t) i k ∧ i < k ∧ k ≤ s ∧ lx_M c p q e s t k j) ↔ (i < k ∧ k ≤ s ∧ lx_M c p q e s (p t) i k ∧ lx_M c p q e s t k j) := fun k => ⟨fun ⟨a, b, d, f⟩ => ⟨b, d, a, f⟩, fun ⟨b, d, a, f⟩ => ⟨a, b, d, f⟩⟩
  simp only [h]
theorem lx_M7 (hc : c t = 7) : ¬ lx_M c p q e s t i j := by
  rw [lx_M]; simp [hc]
end
theorem lx_le (c p q : Nat → Nat) (e : Nat → Nat → Prop) (s : Nat) : ∀ t i j, i ≤ s → lx_M c p q e s t i j → i ≤ j ∧ j ≤ s := by
  intro t
  induction t using Nat.strongRecOn with
  | _ t iht =>
    intro i
    generalize hd : s - i = d
    induction d using Nat.strongRecOn generalizing i with
    | _ d ihd =>
      intro j hi h
      rw [lx_M] at h
      rcases h with ⟨_, a, b, _⟩ | ⟨_, a, b⟩ | ⟨_, b⟩ | ⟨_, k, h1, h2, ⟨hp, m1⟩, ⟨hq, m2⟩⟩ | ⟨_, ⟨hp, m⟩ | ⟨hq, m⟩⟩ | ⟨_, b | ⟨k, ⟨h1, h2⟩, ⟨hp, m1⟩, m2⟩⟩ | ⟨_, ⟨hp, m⟩ | ⟨k, ⟨h1, h2⟩, ⟨hp, m1⟩, m2⟩⟩
      · omega
      · omega
      · omega
      · have a := iht _ hp _ _ hi m1
        have b := iht _ hq _ _ h2 m2
        omega
      · exact iht _ hp _ _ hi m
      · exact iht _ hq _ _ hi m
      · omega
      · have b := ihd (s - k) (by omega) k rfl j h2 m2
        omega
      · exact iht _ hp _ _ hi m
      · have b := ihd (s - k) (by omega) k rfl j h2 m2
        omega
/-- the least r from r on, d of them, with B r; else -1 -/
noncomputable def lx_lr (B : Nat → Prop) : Nat → Nat → Int32
  | 0, _ => -1
  | d + 1, r => @ite _ (B r) (Classical.propDecidable _) (nI r) (lx_lr B d (r + 1))
theorem lx_lr_t {B : Nat → Prop} {d r : Nat} (h : B r) : lx_lr B (d + 1) r = nI r := by
  rw [lx_lr]; exact if_pos h
theorem lx_lr_f {B : Nat → Prop} {d r : Nat} (h : ¬ B r) : lx_lr B (d + 1) r = lx_lr B d (r + 1) := by
  rw [lx_lr]; exact if_neg h
/-- the end of the word that begins at i -/
def lx_ew (G : Nat → Int32) (i : Nat) : Nat → Nat
  | 0 => i + 1
  | j + 1 => if j + 1 ≤ i then i + 1 else if G (j + 1) < 0 then lx_ew G i j else j + 1
theorem lx_ew_b (G : Nat → Int32) (i : Nat) : ∀ j, i < lx_ew G i j ∧ (lx_ew G i j ≤ i + 1 ∨ lx_ew G i j ≤ j) := by
  intro j
  induction j with
  | zero => rw [lx_ew]; omega
  | succ j ih =>
    rw [lx_ew]
    split
    · omega
    · split
      · omega
      · omega
/-- where word w begins -/
def lx_b (E : Nat → Nat) : Nat → Nat
  | 0 => 0
  | w + 1 => E (lx_b E w)
/-- how many below d have B -/
noncomputable def lx_cn (B : Nat → Prop) : Nat → Nat
  | 0 => 0
  | d + 1 => lx_cn B d + @ite _ (B d) (Classical.propDecidable _) 1 0
theorem lx_cn_t {B : Nat → Prop} {d : Nat} (h : B d) : lx_cn B (d + 1) = lx_cn B d + 1 := by
  rw [lx_cn]; exact congrArg _ (if_pos h)
theorem lx_cn_f {B : Nat → Prop} {d : Nat} (h : ¬ B d) : lx_cn B (d + 1) = lx_cn B d := by
  rw [lx_cn]; exact congrArg _ (if_neg h)
theorem lx_one : ∀ k, k < 32 → bt 1 k = decide (k = 0) := by decide +kernel
theorem lx_bit (x : Int32) {i : Nat} (hi : i < 32) : ((x.toUInt32 >>> ((nI i).toUInt32 &&& Int32.toUInt32 31)).toInt32 &&& 1) = 1 ↔ bt x i = true := by
  have h := b_ushr i hi x 0
  rw [Nat.add_zero] at h
  rw [← h]
  generalize (x.toUInt32 >>> ((nI i).toUInt32 &&& Int32.toUInt32 31)).toInt32 = y
  constructor
  · intro hy
    have h1 : bt (y &&& 1) 0 = bt 1 0 := by rw [hy]
    rw [b_and, lx_one 0 (by omega)] at h1
    simpa using h1
  · intro hy
    apply b_ext
    intro k hk
    rw [b_and, lx_one k hk]
    by_cases hk0 : k = 0
    · subst hk0; simp [hy]
    · simp [hk0]
theorem lx_shl {n j : Nat} (hn : n < 32) (hj : j < 32) : bt ((1 : Int32) <<< (nI n &&& 31)) j = true ↔ j = n := by
  rw [b_shl n hn 1 hj, lx_one (j - n) (by omega)]
  simp
  omega
theorem lx_ix (t i : Nat) : nI t * 31 + nI i = nI (t * 31 + i) := by
  rw [show (31 : Int32) = nI 31 from rfl, pk_mul, nI_add]
theorem lx_iy (t i j : Nat) : 961 * nI t + 31 * nI i + nI j = nI (961 * t + 31 * i + j) := by
  rw [show (31 : Int32) = nI 31 from rfl, show (961 : Int32) = nI 961 from rfl, pk_mul, pk_mul, nI_add, nI_add]
/-- nI n - 1, down to -1 -/
def lx_dn : Nat → Int32
  | 0 => -1
  | n + 1 => nI n
theorem lx_dn_m (n : Nat) : nI n + (-1) = lx_dn n := by
  cases n with
  | zero => decide
  | succ n => exact pk_m1 n
/-- X's node t -/
def lx_NX (c fi se : Nat → Int32) (C P Q : Nat → Nat) (t : Nat) : Prop :=
  c t = nI (C t) ∧ C t < 8 ∧ fi t = nI (P t) ∧ P t < 40 ∧ (C t = 3 ∨ C t = 4 → P t < t ∧ Q t < t ∧ se t = nI (Q t)) ∧ (C t = 5 ∨ C t = 6 → P t < t)
/-- Y's node t -/
def lx_NY (c le ri : Nat → Int32) (C P Q : Nat → Nat) (t : Nat) : Prop :=
  c t = nI (C t) ∧ C t < 8 ∧ (C t = 3 ∨ C t = 4 → P t < t ∧ Q t < t ∧ le t = nI (P t) ∧ ri t = nI (Q t)) ∧ (C t = 5 ∨ C t = 6 → P t < t ∧ ri t = nI (P t))
/-- X's table holds M below node t, and at node t from place i on -/
def lx_DX (M : Nat → Nat → Nat → Prop) (en : Nat → Int32) (s t i : Nat) : Prop :=
  ∀ t' i' j, i' ≤ s → j < 32 → (t' < t ∨ t' = t ∧ i ≤ i') → (bt (en (t' * 31 + i')) j = true ↔ M t' i' j)
/-- Y's table holds M at one place -/
def lx_V (M : Nat → Nat → Nat → Prop) (ft : Nat → Int32) (t i j : Nat) : Prop :=
  (ft (961 * t + 31 * i + j) = 1 ∧ M t i j) ∨ (ft (961 * t + 31 * i + j) = 0 ∧ ¬ M t i j)
