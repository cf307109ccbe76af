section
theorem pk_us {f : Nat → Int32} {k : Nat} {x : Int32} : upd f k x k = x := if_pos rfl
theorem pk_un {f : Nat → Int32} {k j : Nat} {x : Int32} (h : j ≠ k) : upd f k x j = f j := if_neg h
theorem pk_sub {a b : Nat} (h : b ≤ a) : nI a - nI b = nI (a - b) := by
  obtain ⟨c, rfl⟩ : ∃ c, a = c + b := ⟨a - b, by omega⟩
  rw [← nI_add, Int32.add_sub_cancel, Nat.add_sub_cancel]
theorem pk_m1 (n : Nat) : nI (n + 1) + (-1) = nI n := by
  rw [← nI_1, Int32.add_assoc, show (1 : Int32) + (-1) = 0 from rfl, Int32.add_zero]
theorem pk_mul (a b : Nat) : nI a * nI b = nI (a * b) := (Int32.ofNat_mul a b).symm
theorem pk_div {a d : Nat} (ha : a < 2 ^ 31) (h0 : 0 < d) (hd : d < 2 ^ 31) : nI a / nI d = nI (a / d) := by
  apply Int32.toInt_inj.mp
  rw [lg_idiv_nonneg (by rw [nI_toInt ha]; omega) (by rw [nI_toInt hd]; omega), nI_toInt ha, nI_toInt hd, nI_toInt (Nat.lt_of_le_of_lt (Nat.div_le_self a d) ha)]
  first | rfl | exact (Int.natCast_ediv _ _).symm
theorem pk_rem {a d : Nat} (ha : a < 2 ^ 31) (h0 : 0 < d) (hd : d < 2 ^ 31) : nI a - nI a / nI d * nI d = nI (a % d) := by
  rw [pk_div ha h0 hd, pk_mul, pk_sub (Nat.div_mul_le_self a d)]
  exact congrArg nI (by have := Nat.div_add_mod' a d; omega)
theorem pk_ix (x : Int32) {n : Nat} (hn : n < 2 ^ 31) : x < 0 ∨ nI n ≤ x ∨ ∃ j : Nat, j < n ∧ x = nI j := by
  by_cases h : x < 0
  · exact Or.inl h
  · obtain ⟨j, hj, rfl⟩ := nI_of h
    by_cases h2 : j < n
    · exact Or.inr (Or.inr ⟨j, h2, rfl⟩)
    · exact Or.inr (Or.inl (nI_le (by omega) hj))
theorem pk_le {x y : Int32} {A B : Prop} (a b : Nat) (f : a ≤ b → A) (g : b < a → B) (hx : x = nI a := by rfl) (hy : y = nI b := by rfl) (ha : a < 2 ^ 31 := by omega) (hb : b < 2 ^ 31 := by omega) : (x ≤ y → A) ∧ (¬ x ≤ y → B) := by
  subst hx hy
  rw [nI_leI ha hb]
  exact ⟨f, fun z => g (by omega)⟩
theorem pk_lt {x y : Int32} {A B : Prop} (a b : Nat) (f : a < b → A) (g : b ≤ a → B) (hx : x = nI a := by rfl) (hy : y = nI b := by rfl) (ha : a < 2 ^ 31 := by omega) (hb : b < 2 ^ 31 := by omega) : (x < y → A) ∧ (¬ x < y → B) := by
  subst hx hy
  rw [nI_ltI ha hb]
  exact ⟨f, fun z => g (by omega)⟩
theorem pk_eq {x y : Int32} {A B : Prop} (a b : Nat) (f : a = b → A) (g : a ≠ b → B) (hx : x = nI a := by rfl) (hy : y = nI b := by rfl) (ha : a < 2 ^ 31 := by omega) (hb : b < 2 ^ 31 := by omega) : (x = y → A) ∧ (¬ x = y → B) := by
  subst hx hy
  rw [nI_eq ha hb]
  exact ⟨f, g⟩
theorem pk_in {x : Int32} (n N : Nat) (h : n < N) (hx : x = nI n := by rfl) (hN : N < 2 ^ 31 := by omega) : vp_in x N := by
  subst hx
  exact vp_in_nI h hN
theorem pk_cl {x : Int32} (n : Nat) (hx : x = nI n := by rfl) (h : n < 2 ^ 31 := by omega) : x.toNatClampNeg = n := by
  subst hx
  exact nI_clamp h
theorem pk_tn {n : Nat} (h : n < 2 ^ 32) : (nI n).toBitVec.toNat = n := Nat.mod_eq_of_lt h
theorem pk_and (x : Int32) {m : Int32} (k : Nat) (hm : m.toBitVec.toNat = 2 ^ k - 1) : x &&& m = nI (x.toBitVec.toNat % 2 ^ k) := by
  apply Int32.toBitVec_inj.mp
  apply BitVec.eq_of_toNat_eq
  rw [Int32.toBitVec_and, BitVec.toNat_and, hm, Nat.and_two_pow_sub_one_eq_mod]
  show _ = (BitVec.ofNat 32 _).toNat
  rw [BitVec.toNat_ofNat]
  exact (Nat.mod_eq_of_lt (Nat.lt_of_le_of_lt (Nat.mod_le _ _) x.toBitVec.isLt)).symm
theorem pk_andN {n : Nat} (h : n < 2 ^ 32) {m : Int32} (k : Nat) (hm : m.toBitVec.toNat = 2 ^ k - 1) : nI n &&& m = nI (n % 2 ^ k) := by
  rw [pk_and _ k hm, pk_tn h]
theorem pk_shl (a s : Int32) (k : Nat) (hs : (s.toBitVec.smod 32).toNat = k) : (a <<< s).toBitVec.toNat = a.toBitVec.toNat * 2 ^ k % 2 ^ 32 := by
  show (a.toBitVec <<< (s.toBitVec.smod 32).toNat).toNat = _
  rw [hs, BitVec.toNat_shiftLeft, Nat.shiftLeft_eq]
theorem pk_shlN {n : Nat} (s : Int32) (k : Nat) (hs : (s.toBitVec.smod 32).toNat = k) (h : n * 2 ^ k < 2 ^ 32) : nI n <<< s = nI (n * 2 ^ k) := by
  apply Int32.toBitVec_inj.mp
  apply BitVec.eq_of_toNat_eq
  have hn : n < 2 ^ 32 := Nat.lt_of_le_of_lt (Nat.le_mul_of_pos_right n (Nat.two_pow_pos k)) h
  rw [pk_shl _ _ k hs, pk_tn hn, pk_tn h, Nat.mod_eq_of_lt h]
theorem pk_shr (a s : Int32) (k : Nat) (hs : (s.toBitVec.smod 32).toNat = k) : (a >>> s).toInt = a.toInt >>> k := by
  show (a.toBitVec.sshiftRight (s.toBitVec.smod 32).toNat).toInt = _
  rw [hs, BitVec.toInt_sshiftRight]
  rfl
theorem pk_shrN {n : Nat} (h : n < 2 ^ 31) (s : Int32) (k : Nat) (hs : (s.toBitVec.smod 32).toNat = k) : nI n >>> s = nI (n / 2 ^ k) := by
  apply Int32.toInt_inj.mp
  have h2 : n / 2 ^ k ≤ n := Nat.div_le_self _ _
  rw [pk_shr _ _ k hs, nI_toInt h, nI_toInt (by omega), Int.shiftRight_eq_div_pow]
  rfl
theorem pk_ushr (x s : Int32) (k : Nat) (hs : ((s.toUInt32 &&& Int32.toUInt32 31).toBitVec % 32).toNat = k) : (x.toUInt32 >>> (s.toUInt32 &&& Int32.toUInt32 31)).toInt32.toBitVec.toNat = x.toBitVec.toNat / 2 ^ k := by
  have e : (x.toUInt32 >>> (s.toUInt32 &&& Int32.toUInt32 31)).toInt32.toBitVec = x.toBitVec >>> k := by
    rw [← hs]
    exact UInt32.toBitVec_shiftRight _ _
  rw [e, BitVec.toNat_ushiftRight, Nat.shiftRight_eq_div_pow]
theorem pk_ushrN {n : Nat} (hn : n < 2 ^ 32) (s : Int32) (k : Nat) (hs : ((s.toUInt32 &&& Int32.toUInt32 31).toBitVec % 32).toNat = k) : ((nI n).toUInt32 >>> (s.toUInt32 &&& Int32.toUInt32 31)).toInt32 = nI (n / 2 ^ k) := by
  apply Int32.toBitVec_inj.mp
  apply BitVec.eq_of_toNat_eq
  rw [pk_ushr _ s k hs, pk_tn hn, pk_tn (Nat.lt_of_le_of_lt (Nat.div_le_self _ _) hn)]
def bt (x : Int32) (i : Nat) : Bool := x.toBitVec.getLsbD i
theorem b_ext {x y : Int32} (h : ∀ i, i < 32 → bt x i = bt y i) : x = y := Int32.toBitVec_inj.mp (BitVec.eq_of_getLsbD_eq (fun i hi => h i hi))
theorem b_or (x y : Int32) (i : Nat) : bt (x ||| y) i = (bt x i || bt y i) := by unfold bt; rw [Int32.toBitVec_or, BitVec.getLsbD_or]
theorem b_and (x y : Int32) (i : Nat) : bt (x &&& y) i = (bt x i && bt y i) := by unfold bt; rw [Int32.toBitVec_and, BitVec.getLsbD_and]
theorem b_big {x : Int32} {i : Nat} (h : 32 ≤ i) : bt x i = false := BitVec.getLsbD_of_ge _ _ h
theorem b_0 (i : Nat) : bt 0 i = false := BitVec.getLsbD_zero
theorem s_l : ∀ n, n < 32 → ((nI n &&& 31).toBitVec.smod 32).toNat = n := by decide +kernel
theorem s_u : ∀ n, n < 32 → (((nI n).toUInt32 &&& Int32.toUInt32 31).toBitVec % 32).toNat = n := by decide +kernel
theorem b_shl (n : Nat) (hn : n < 32) (x : Int32) {i : Nat} (hi : i < 32) : bt (x <<< (nI n &&& 31)) i = (decide (n ≤ i) && bt x (i - n)) := by
  unfold bt
  rw [Int32.toBitVec_shiftLeft]
  show (x.toBitVec <<< ((nI n &&& 31).toBitVec.smod 32).toNat).getLsbD i = _
  rw [s_l n hn, BitVec.getLsbD_shiftLeft]
  rcases Nat.lt_or_ge i n with h | h
  · simp [h, Nat.not_le.mpr h]
  · simp [hi, h, Nat.not_lt.mpr h]
theorem b_ushr (n : Nat) (hn : n < 32) (x : Int32) (i : Nat) : bt ((x.toUInt32 >>> ((nI n).toUInt32 &&& Int32.toUInt32 31)).toInt32) i = bt x (n + i) := by
  show (x.toUInt32 >>> ((nI n).toUInt32 &&& Int32.toUInt32 31)).toBitVec.getLsbD i = x.toUInt32.toBitVec.getLsbD (n + i)
  rw [UInt32.toBitVec_shiftRight]
  show (x.toUInt32.toBitVec >>> (((nI n).toUInt32 &&& Int32.toUInt32 31).toBitVec % 32).toNat).getLsbD i = _
  rw [s_u n hn, BitVec.getLsbD_ushiftRight]
end
section
/-- the letters i up to j of the row are a row of node t: c codes, p and q the parts, e 'the letter at i is that of node t', s the row's size -/
def lx_M (c p q : Nat → Nat) (e : Nat → Nat → Prop) (s : Nat) (t i j : Nat) : Prop :=
  (c t = 0 ∧ i < s ∧ j = i + 1 ∧ e t i) ∨
  (c t = 1 ∧ i < s ∧ j = i + 1) ∨
  (c t = 2 ∧ j = i) ∨
  (c t = 3 ∧ ∃ k, i ≤ k ∧ k ≤ s ∧ (∃ _ : p t < t, lx_M c p q e s (p t) i k) ∧ (∃ _ : q t < t, lx_M c p q e s (q t) k j)) ∨
  (c t = 4 ∧ ((∃ _ : p t < t, lx_M c p q e s (p t) i j) ∨ (∃ _ : q t < t, lx_M c p q e s (q t) i j))) ∨
  (c t = 5 ∧ (j = i ∨ ∃ k, ∃ _ : i < k ∧ k ≤ s, (∃ _ : p t < t, lx_M c p q e s (p t) i k) ∧ lx_M c p q e s t k j)) ∨
  (c t = 6 ∧ ((∃ _ : p t < t, lx_M c p q e s (p t) i j) ∨ ∃ k, ∃ _ : i < k ∧ k ≤ s, (∃ _ : p t < t, lx_M c p q e s (p t) i k) ∧ lx_M c p q e s t k j))
termination_by (t, s - i)
decreasing_by
  all_goals first
    | (apply Prod.Lex.left; assumption)
    | (apply Prod.Lex.right; omega)
section
variable {c p q : Nat → Nat} {e : Nat → Nat → Prop} {s t i j : Nat}
theorem lx_M0 (hc : c t = 0) : lx_M c p q e s t i j ↔ i < s ∧ j = i + 1 ∧ e t i := by
  rw [lx_M]; simp [hc]
theorem lx_M1 (hc : c t = 1) : lx_M c p q e s t i j ↔ i < s ∧ j = i + 1 := by
  rw [lx_M]; simp [hc]
theorem lx_M2 (hc : c t = 2) : lx_M c p q e s t i j ↔ j = i := by
  rw [lx_M]; simp [hc]
theorem lx_M3 (hc : c t = 3) (hp : p t < t) (hq : q t < t) : lx_M c p q e s t i j ↔ ∃ k, i ≤ k ∧ k ≤ s ∧ lx_M c p q e s (p t) i k ∧ lx_M c p q e s (q t) k j := by
  rw [lx_M]; simp [hc, hp, hq]
theorem lx_M4 (hc : c t = 4) (hp : p t < t) (hq : q t < t) : lx_M c p q e s t i j ↔ lx_M c p q e s (p t) i j ∨ lx_M c p q e s (q t) i j := by
  rw [lx_M]; simp [hc, hp, hq]
theorem lx_M5 (hc : c t = 5) (hp : p t < t) : lx_M c p q e s t i j ↔ j = i ∨ ∃ k, i < k ∧ k ≤ s ∧ lx_M c p q e s (p t) i k ∧ lx_M c p q e s t k j := by
  rw [lx_M]; simp [hc, hp, and_assoc]
  have h : ∀ k, (lx_M c p q e s (p t) i k ∧ i < k ∧ k ≤ s ∧ lx_M c p q e s t k j) ↔ (i < k ∧ k ≤ s ∧ lx_M c p q e s (p t) i k ∧ lx_M c p q e s t k j) := fun k => ⟨fun ⟨a, b, d, f⟩ => ⟨b, d, a, f⟩, fun ⟨b, d, a, f⟩ => ⟨a, b, d, f⟩⟩
  simp only [h]
theorem lx_M6 (hc : c t = 6) (hp : p t < t) : lx_M c p q e s t i j ↔ lx_M c p q e s (p t) i j ∨ ∃ k, i < k ∧ k ≤ s ∧ lx_M c p q e s (p t) i k ∧ lx_M c p q e s t k j := by
  rw [lx_M]; simp [hc, hp, and_assoc]
  have h : ∀ k, (lx_M c p q e s (p t) i k ∧ i < k ∧ k ≤ s ∧ lx_M c p q e s t k j) ↔ (i < k ∧ k ≤ s ∧ lx_M c p q e s (p t) i k ∧ lx_M c p q e s t k j) := fun k => ⟨fun ⟨a, b, d, f⟩ => ⟨b, d, a, f⟩, fun ⟨b, d, a, f⟩ => ⟨a, b, d, f⟩⟩
  simp only [h]
theorem lx_M7 (hc : c t = 7) : ¬ lx_M c p q e s t i j := by
  rw [lx_M]; simp [hc]
end
theorem lx_le (c p q : Nat → Nat) (e : Nat → Nat → Prop) (s : Nat) : ∀ t i j, i ≤ s → lx_M c p q e s t i j → i ≤ j ∧ j ≤ s := by
  intro t
  induction t using Nat.strongRecOn with
  | _ t iht =>
    intro i
    generalize hd : s - i = d
    induction d using Nat.strongRecOn generalizing i with
    | _ d ihd =>
      intro j hi h
      rw [lx_M] at h
      rcases h with ⟨_, a, b, _⟩ | ⟨_, a, b⟩ | ⟨_, b⟩ | ⟨_, k, h1, h2, ⟨hp, m1⟩, ⟨hq, m2⟩⟩ | ⟨_, ⟨hp, m⟩ | ⟨hq, m⟩⟩ | ⟨_, b | ⟨k, ⟨h1, h2⟩, ⟨hp, m1⟩, m2⟩⟩ | ⟨_, ⟨hp, m⟩ | ⟨k, ⟨h1, h2⟩, ⟨hp, m1⟩, m2⟩⟩
      · omega
      · omega
      · omega
      · have a := iht _ hp _ _ hi m1
        have b := iht _ hq _ _ h2 m2
        omega
      · exact iht _ hp _ _ hi m
      · exact iht _ hq _ _ hi m
      · omega
      · have b := ihd (s - k) (by omega) k rfl j h2 m2
        omega
      · exact iht _ hp _ _ hi m
      · have b := ihd (s - k) (by omega) k rfl j h2 m2
        omega
/-- the least r from r on, d of them, with B r; else -1 -/
noncomputable def lx_lr (B : Nat → Prop) : Nat → Nat → Int32
  | 0, _ => -1
  | d + 1, r => @ite _ (B r) (Classical.propDecidable _) (nI r) (lx_lr B d (r + 1))
theorem lx_lr_t {B : Nat → Prop} {d r : Nat} (h : B r) : lx_lr B (d + 1) r = nI r := by
  rw [lx_lr]; exact if_pos h
theorem lx_lr_f {B : Nat → Prop} {d r : Nat} (h : ¬ B r) : lx_lr B (d + 1) r = lx_lr B d (r + 1) := by
  rw [lx_lr]; exact if_neg h
/-- the end of the word that begins at i -/
def lx_ew (G : Nat → Int32) (i : Nat) : Nat → Nat
  | 0 => i + 1
  | j + 1 => if j + 1 ≤ i then i + 1 else if G (j + 1) < 0 then lx_ew G i j else j + 1
theorem lx_ew_b (G : Nat → Int32) (i : Nat) : ∀ j, i < lx_ew G i j ∧ (lx_ew G i j ≤ i + 1 ∨ lx_ew G i j ≤ j) := by
  intro j
  induction j with
  | zero => rw [lx_ew]; omega
  | succ j ih =>
    rw [lx_ew]
    split
    · omega
    · split
      · omega
      · omega
/-- where word w begins -/
def lx_b (E : Nat → Nat) : Nat → Nat
  | 0 => 0
  | w + 1 => E (lx_b E w)
/-- how many below d have B -/
noncomputable def lx_cn (B : Nat → Prop) : Nat → Nat
  | 0 => 0
  | d + 1 => lx_cn B d + @ite _ (B d) (Classical.propDecidable _) 1 0
theorem lx_cn_t {B : Nat → Prop} {d : Nat} (h : B d) : lx_cn B (d + 1) = lx_cn B d + 1 := by
  rw [lx_cn]; exact congrArg _ (if_pos h)
theorem lx_cn_f {B : Nat → Prop} {d : Nat} (h : ¬ B d) : lx_cn B (d + 1) = lx_cn B d := by
  rw [lx_cn]; exact congrArg _ (if_neg h)
theorem lx_one : ∀ k, k < 32 → bt 1 k = decide (k = 0) := by decide +kernel
theorem lx_bit (x : Int32) {i : Nat} (hi : i < 32) : ((x.toUInt32 >>> ((nI i).toUInt32 &&& Int32.toUInt32 31)).toInt32 &&& 1) = 1 ↔ bt x i = true := by
  have h := b_ushr i hi x 0
  rw [Nat.add_zero] at h
  rw [← h]
  generalize (x.toUInt32 >>> ((nI i).toUInt32 &&& Int32.toUInt32 31)).toInt32 = y
  constructor
  · intro hy
    have h1 : bt (y &&& 1) 0 = bt 1 0 := by rw [hy]
    rw [b_and, lx_one 0 (by omega)] at h1
    simpa using h1
  · intro hy
    apply b_ext
    intro k hk
    rw [b_and, lx_one k hk]
    by_cases hk0 : k = 0
    · subst hk0; simp [hy]
    · simp [hk0]
theorem lx_shl {n j : Nat} (hn : n < 32) (hj : j < 32) : bt ((1 : Int32) <<< (nI n &&& 31)) j = true ↔ j = n := by
  rw [b_shl n hn 1 hj, lx_one (j - n) (by omega)]
  simp
  omega
theorem lx_ix (t i : Nat) : nI t * 31 + nI i = nI (t * 31 + i) := by
  rw [show (31 : Int32) = nI 31 from rfl, pk_mul, nI_add]
theorem lx_iy (t i j : Nat) : 961 * nI t + 31 * nI i + nI j = nI (961 * t + 31 * i + j) := by
  rw [show (31 : Int32) = nI 31 from rfl, show (961 : Int32) = nI 961 from rfl, pk_mul, pk_mul, nI_add, nI_add]
/-- nI n - 1, down to -1 -/
def lx_dn : Nat → Int32
  | 0 => -1
  | n + 1 => nI n
theorem lx_dn_m (n : Nat) : nI n + (-1) = lx_dn n := by
  cases n with
  | zero => decide
  | succ n => exact pk_m1 n
/-- X's node t -/
def lx_NX (c fi se : Nat → Int32) (C P Q : Nat → Nat) (t : Nat) : Prop :=
  c t = nI (C t) ∧ C t < 8 ∧ fi t = nI (P t) ∧ P t < 40 ∧ (C t = 3 ∨ C t = 4 → P t < t ∧ Q t < t ∧ se t = nI (Q t)) ∧ (C t = 5 ∨ C t = 6 → P t < t)
/-- Y's node t -/
def lx_NY (c le ri : Nat → Int32) (C P Q : Nat → Nat) (t : Nat) : Prop :=
  c t = nI (C t) ∧ C t < 8 ∧ (C t = 3 ∨ C t = 4 → P t < t ∧ Q t < t ∧ le t = nI (P t) ∧ ri t = nI (Q t)) ∧ (C t = 5 ∨ C t = 6 → P t < t ∧ ri t = nI (P t))
/-- X's table holds M below node t, and at node t from place i on -/
def lx_DX (M : Nat → Nat → Nat → Prop) (en : Nat → Int32) (s t i : Nat) : Prop :=
  ∀ t' i' j, i' ≤ s → j < 32 → (t' < t ∨ t' = t ∧ i ≤ i') → (bt (en (t' * 31 + i')) j = true ↔ M t' i' j)
/-- Y's table holds M at one place -/
def lx_V (M : Nat → Nat → Nat → Prop) (ft : Nat → Int32) (t i j : Nat) : Prop :=
  (ft (961 * t + 31 * i + j) = 1 ∧ M t i j) ∨ (ft (961 * t + 31 * i + j) = 0 ∧ ¬ M t i j)
end
section
section
variable {f0 f1 f2 f3 f4 : Int32} {c l fi se st ru tx en ws wl cn : Nat → Int32}
theorem lx_aft6 {post : Int32 → Prop} {x1 : Int32} {t s lo : Nat} (ht : t < 40) (hs : s ≤ 30)
    (hp : ∀ v, (∀ j, j < 32 → (bt v j = true ↔ ∃ k, lo ≤ k ∧ k ≤ s ∧ bt x1 k = true ∧ bt (en (t * 31 + k)) j = true)) → post v) :
    ∀ d i x5, lo ≤ i → i + d = s + 1 → (∀ j, j < 32 → (bt x5 j = true ↔ ∃ k, lo ≤ k ∧ k < i ∧ bt x1 k = true ∧ bt (en (t * 31 + k)) j = true)) →
      wX_endsAfter_6 post x1 (nI t) (nI s) f0 f1 f2 f3 f4 c l fi se st ru tx en ws wl cn (d + 1) x5 (nI i) := by
  intro d
  induction d with
  | zero =>
    intro i x5 hl hi h5
    refine br_t (nI_lt (by omega) (by omega)) (hp _ fun j hj => ?_)
    rw [h5 j hj]
    exact ⟨fun ⟨k, a, b, z⟩ => ⟨k, a, by omega, z⟩, fun ⟨k, a, b, z⟩ => ⟨k, a, by omega, z⟩⟩
  | succ d ih =>
    intro i x5 hl hi h5
    refine br_f (nI_nlt (by omega) (by omega)) ?_
    by_cases hb : bt x1 i = true
    · refine br_t ((lx_bit x1 (by omega)).mpr hb) ?_
      rw [lx_ix, nI_clamp (by omega)]
      refine ⟨vp_in_nI (by omega) (by omega), ?_⟩
      refine nm_e (nm_r (nI_1 i) (ih (i + 1) _ (by omega) (by omega) fun j hj => ?_))
      rw [b_or, Bool.or_eq_true, h5 j hj]
      constructor
      · rintro (⟨k, a, b, z⟩ | z)
        · exact ⟨k, a, by omega, z⟩
        · exact ⟨i, hl, by omega, hb, z⟩
      · rintro ⟨k, a, b, z1, z2⟩
        by_cases hk : k = i
        · subst hk; exact Or.inr z2
        · exact Or.inl ⟨k, a, by omega, z1, z2⟩
    · refine br_f (fun h => hb ((lx_bit x1 (by omega)).mp h)) ?_
      refine nm_r (nI_1 i) (ih (i + 1) _ (by omega) (by omega) fun j hj => ?_)
      rw [h5 j hj]
      constructor
      · rintro ⟨k, a, b, z⟩
        exact ⟨k, a, by omega, z⟩
      · rintro ⟨k, a, b, z1, z2⟩
        by_cases hk : k = i
        · subst hk; exact absurd z1 hb
        · exact ⟨k, a, by omega, z1, z2⟩
theorem lx_aft {post : Int32 → Prop} {x1 : Int32} {t s lo : Nat} (ht : t < 40) (hs : s ≤ 30) (hlo : lo ≤ s + 1)
    (hp : ∀ v, (∀ j, j < 32 → (bt v j = true ↔ ∃ k, lo ≤ k ∧ k ≤ s ∧ bt x1 k = true ∧ bt (en (t * 31 + k)) j = true)) → post v) :
    wpX_endsAfter post (f0, f1, f2, f3, f4, c, l, fi, se, st, ru, tx, en, ws, wl, cn) x1 (nI t) (nI lo) (nI s) := by
  refine ⟨s + 1 - lo + 1, lx_aft6 ht hs hp (s + 1 - lo) lo 0 (by omega) (by omega) fun j hj => ?_⟩
  rw [b_0]
  exact ⟨(fun h => nomatch h), fun ⟨k, a, b, _⟩ => by omega⟩
theorem lx_eo_text {post : Int32 → Prop} {C P Q : Nat → Nat} {e : Nat → Nat → Prop} {t i s : Nat} (ht : t < 40) (hi : i ≤ s) (hs : s ≤ 30) (hsN : s ≤ 30)
    (N : lx_NX c fi se C P Q t) (hD : lx_DX (lx_M C P Q e s) en s t (i + 1)) (he : ∀ i, i < s → (tx i = l t ↔ e t i))
    (hp : ∀ v, (∀ j, j < 32 → (bt v j = true ↔ lx_M C P Q e s t i j)) → post v) :
    wpX_endsOf__text post (f0, f1, f2, f3, f4, c, l, fi, se, st, ru, tx, en, ws, wl, cn) (nI t) (nI i) (nI s) := by
  obtain ⟨hc, hc8, hf, hP, h34, h56⟩ := N
  unfold wpX_endsOf__text
  dsimp only
  rw [nI_clamp (show t < 2 ^ 31 by omega), hf, lx_ix, nI_clamp (show P t * 31 + i < 2 ^ 31 by omega)]
  refine ⟨vp_in_nI ht (by omega), vp_in_nI (by omega) (by omega), ?_⟩
  intro x5 hx5
  refine ⟨vp_in_nI ht (by omega), ?_⟩
  refine nm_r hc ?_
  have hcs : C t = 0 ∨ C t = 1 ∨ C t = 2 ∨ C t = 3 ∨ C t = 4 ∨ C t = 5 ∨ C t = 6 ∨ C t = 7 := by omega
  rcases hcs with h | h | h | h | h | h | h | h
  · rw [h]
    refine br_f (by decide) (br_f (by decide) (br_t (by decide) ?_))
    by_cases hsi : s ≤ i
    · refine br_t (nI_le hsi (by omega)) (hp _ fun j hj => ?_)
      rw [lx_M0 h, b_0]
      exact ⟨(fun z => nomatch z), fun z => by omega⟩
    · refine br_f (nI_ge (by omega) (by omega)) ⟨vp_in_nI (by omega) (by omega), vp_in_nI ht (by omega), ?_⟩
      rw [nI_clamp (show i < 2 ^ 31 by omega), nI_1]
      refine br_c (fun z => hp _ fun j hj => ?_) (fun z => hp _ fun j hj => ?_)
      · rw [lx_M0 h, lx_shl (by omega) hj]
        exact ⟨fun y => ⟨by omega, y, (he i (by omega)).mp z⟩, fun y => y.2.1⟩
      · rw [lx_M0 h, b_0]
        exact ⟨(fun y => nomatch y), fun y => absurd ((he i (by omega)).mpr y.2.2) z⟩
  · rw [h]
    refine br_f (by decide) (br_f (by decide) (br_f (by decide) (br_t (by decide) ?_)))
    by_cases hsi : s ≤ i
    · refine br_t (nI_le hsi (by omega)) (hp _ fun j hj => ?_)
      rw [lx_M1 h, b_0]
      exact ⟨(fun z => nomatch z), fun z => by omega⟩
    · refine br_f (nI_ge (by omega) (by omega)) ?_
      rw [nI_1]
      refine hp _ fun j hj => ?_
      rw [lx_M1 h, lx_shl (by omega) hj]
      exact ⟨fun y => ⟨by omega, y⟩, fun y => y.2⟩
  · rw [h]
    refine br_f (by decide) (br_f (by decide) (br_f (by decide) (br_f (by decide) (br_t (by decide) ?_))))
    refine hp _ fun j hj => ?_
    rw [lx_M2 h, lx_shl (by omega) hj]
  · rw [h]
    obtain ⟨h1, h2, h3⟩ := h34 (Or.inl h)
    refine br_f (by decide) (br_f (by decide) (br_f (by decide) (br_f (by decide) (br_f (by decide) (br_t (by decide) ⟨vp_in_nI ht (by omega), ?_⟩)))))
    rw [h3]
    refine lx_aft (by omega) hs (by omega) fun v hv => hp _ fun j hj => ?_
    rw [hv j hj, lx_M3 h h1 h2, hx5]
    constructor
    · rintro ⟨k, a, b, z1, z2⟩
      exact ⟨k, a, b, (hD (P t) i k hi (by omega) (Or.inl h1)).mp z1, (hD (Q t) k j b hj (Or.inl h2)).mp z2⟩
    · rintro ⟨k, a, b, z1, z2⟩
      exact ⟨k, a, b, (hD (P t) i k hi (by omega) (Or.inl h1)).mpr z1, (hD (Q t) k j b hj (Or.inl h2)).mpr z2⟩
  · rw [h]
    obtain ⟨h1, h2, h3⟩ := h34 (Or.inr h)
    refine br_f (by decide) (br_f (by decide) (br_f (by decide) (br_f (by decide) (br_f (by decide) (br_f (by decide) (br_t (by decide) ⟨vp_in_nI ht (by omega), ?_⟩))))))
    rw [h3, lx_ix, nI_clamp (show Q t * 31 + i < 2 ^ 31 by omega)]
    refine ⟨vp_in_nI (by omega) (by omega), hp _ fun j hj => ?_⟩
    rw [b_or, Bool.or_eq_true, lx_M4 h h1 h2, hx5, hD (P t) i j hi hj (Or.inl h1), hD (Q t) i j hi hj (Or.inl h2)]
  · rw [h]
    have h1 := h56 (Or.inl h)
    refine br_f (by decide) (br_f (by decide) (br_f (by decide) (br_f (by decide) (br_f (by decide) (br_f (by decide) (br_f (by decide) (br_t (by decide) ?_)))))))
    rw [nI_1]
    refine lx_aft ht hs (by omega) fun v hv => hp _ fun j hj => ?_
    rw [b_or, Bool.or_eq_true, hv j hj, lx_M5 h h1, hx5, lx_shl (by omega) hj]
    constructor
    · rintro (z | ⟨k, a, b, z1, z2⟩)
      · exact Or.inl z
      · exact Or.inr ⟨k, a, b, (hD (P t) i k hi (by omega) (Or.inl h1)).mp z1, (hD t k j b hj (Or.inr ⟨rfl, a⟩)).mp z2⟩
    · rintro (z | ⟨k, a, b, z1, z2⟩)
      · exact Or.inl z
      · exact Or.inr ⟨k, a, b, (hD (P t) i k hi (by omega) (Or.inl h1)).mpr z1, (hD t k j b hj (Or.inr ⟨rfl, a⟩)).mpr z2⟩
  · rw [h]
    have h1 := h56 (Or.inr h)
    refine br_f (by decide) (br_f (by decide) (br_f (by decide) (br_f (by decide) (br_f (by decide) (br_f (by decide) (br_f (by decide) (br_f (by decide) (br_t (by decide) ?_))))))))
    rw [nI_1]
    refine lx_aft ht hs (by omega) fun v hv => hp _ fun j hj => ?_
    rw [b_or, Bool.or_eq_true, hv j hj, lx_M6 h h1, hx5, hD (P t) i j hi hj (Or.inl h1)]
    constructor
    · rintro (z | ⟨k, a, b, z1, z2⟩)
      · exact Or.inl z
      · exact Or.inr ⟨k, a, b, (hD (P t) i k hi (by omega) (Or.inl h1)).mp z1, (hD t k j b hj (Or.inr ⟨rfl, a⟩)).mp z2⟩
    · rintro (z | ⟨k, a, b, z1, z2⟩)
      · exact Or.inl z
      · exact Or.inr ⟨k, a, b, (hD (P t) i k hi (by omega) (Or.inl h1)).mpr z1, (hD t k j b hj (Or.inr ⟨rfl, a⟩)).mpr z2⟩
  · rw [h]
    refine br_f (by decide) (br_t (by decide) (hp _ fun j hj => ?_))
    rw [b_0]
    exact ⟨(fun z => nomatch z), fun z => absurd z (lx_M7 h)⟩
theorem lx_eo_counted {post : Int32 → Prop} {C P Q : Nat → Nat} {e : Nat → Nat → Prop} {t i s : Nat} (ht : t < 40) (hi : i ≤ s) (hs : s ≤ 30) (hsN : s ≤ 4)
    (N : lx_NX c fi se C P Q t) (hD : lx_DX (lx_M C P Q e s) en s t (i + 1)) (he : ∀ i, i < s → (cn i = l t ↔ e t i))
    (hp : ∀ v, (∀ j, j < 32 → (bt v j = true ↔ lx_M C P Q e s t i j)) → post v) :
    wpX_endsOf__counted post (f0, f1, f2, f3, f4, c, l, fi, se, st, ru, tx, en, ws, wl, cn) (nI t) (nI i) (nI s) := by
  obtain ⟨hc, hc8, hf, hP, h34, h56⟩ := N
  unfold wpX_endsOf__counted
  dsimp only
  rw [nI_clamp (show t < 2 ^ 31 by omega), hf, lx_ix, nI_clamp (show P t * 31 + i < 2 ^ 31 by omega)]
  refine ⟨vp_in_nI ht (by omega), vp_in_nI (by omega) (by omega), ?_⟩
  intro x5 hx5
  refine ⟨vp_in_nI ht (by omega), ?_⟩
  refine nm_r hc ?_
  have hcs : C t = 0 ∨ C t = 1 ∨ C t = 2 ∨ C t = 3 ∨ C t = 4 ∨ C t = 5 ∨ C t = 6 ∨ C t = 7 := by omega
  rcases hcs with h | h | h | h | h | h | h | h
  · rw [h]
    refine br_f (by decide) (br_f (by decide) (br_t (by decide) ?_))
    by_cases hsi : s ≤ i
    · refine br_t (nI_le hsi (by omega)) (hp _ fun j hj => ?_)
      rw [lx_M0 h, b_0]
      exact ⟨(fun z => nomatch z), fun z => by omega⟩
    · refine br_f (nI_ge (by omega) (by omega)) ⟨vp_in_nI (by omega) (by omega), vp_in_nI ht (by omega), ?_⟩
      rw [nI_clamp (show i < 2 ^ 31 by omega), nI_1]
      refine br_c (fun z => hp _ fun j hj => ?_) (fun z => hp _ fun j hj => ?_)
      · rw [lx_M0 h, lx_shl (by omega) hj]
        exact ⟨fun y => ⟨by omega, y, (he i (by omega)).mp z⟩, fun y => y.2.1⟩
      · rw [lx_M0 h, b_0]
        exact ⟨(fun y => nomatch y), fun y => absurd ((he i (by omega)).mpr y.2.2) z⟩
  · rw [h]
    refine br_f (by decide) (br_f (by decide) (br_f (by decide) (br_t (by decide) ?_)))
    by_cases hsi : s ≤ i
    · refine br_t (nI_le hsi (by omega)) (hp _ fun j hj => ?_)
      rw [lx_M1 h, b_0]
      exact ⟨(fun z => nomatch z), fun z => by omega⟩
    · refine br_f (nI_ge (by omega) (by omega)) ?_
      rw [nI_1]
      refine hp _ fun j hj => ?_
      rw [lx_M1 h, lx_shl (by omega) hj]
      exact ⟨fun y => ⟨by omega, y⟩, fun y => y.2⟩
  · rw [h]
    refine br_f (by decide) (br_f (by decide) (br_f (by decide) (br_f (by decide) (br_t (by decide) ?_))))
    refine hp _ fun j hj => ?_
    rw [lx_M2 h, lx_shl (by omega) hj]
  · rw [h]
    obtain ⟨h1, h2, h3⟩ := h34 (Or.inl h)
    refine br_f (by decide) (br_f (by decide) (br_f (by decide) (br_f (by decide) (br_f (by decide) (br_t (by decide) ⟨vp_in_nI ht (by omega), ?_⟩)))))
    rw [h3]
    refine lx_aft (by omega) hs (by omega) fun v hv => hp _ fun j hj => ?_
    rw [hv j hj, lx_M3 h h1 h2, hx5]
    constructor
    · rintro ⟨k, a, b, z1, z2⟩
      exact ⟨k, a, b, (hD (P t) i k hi (by omega) (Or.inl h1)).mp z1, (hD (Q t) k j b hj (Or.inl h2)).mp z2⟩
    · rintro ⟨k, a, b, z1, z2⟩
      exact ⟨k, a, b, (hD (P t) i k hi (by omega) (Or.inl h1)).mpr z1, (hD (Q t) k j b hj (Or.inl h2)).mpr z2⟩
  · rw [h]
    obtain ⟨h1, h2, h3⟩ := h34 (Or.inr h)
    refine br_f (by decide) (br_f (by decide) (br_f (by decide) (br_f (by decide) (br_f (by decide) (br_f (by decide) (br_t (by decide) ⟨vp_in_nI ht (by omega), ?_⟩))))))
    rw [h3, lx_ix, nI_clamp (show Q t * 31 + i < 2 ^ 31 by omega)]
    refine ⟨vp_in_nI (by omega) (by omega), hp _ fun j hj => ?_⟩
    rw [b_or, Bool.or_eq_true, lx_M4 h h1 h2, hx5, hD (P t) i j hi hj (Or.inl h1), hD (Q t) i j hi hj (Or.inl h2)]
  · rw [h]
    have h1 := h56 (Or.inl h)
    refine br_f (by decide) (br_f (by decide) (br_f (by decide) (br_f (by decide) (br_f (by decide) (br_f (by decide) (br_f (by decide) (br_t (by decide) ?_)))))))
    rw [nI_1]
    refine lx_aft ht hs (by omega) fun v hv => hp _ fun j hj => ?_
    rw [b_or, Bool.or_eq_true, hv j hj, lx_M5 h h1, hx5, lx_shl (by omega) hj]
    constructor
    · rintro (z | ⟨k, a, b, z1, z2⟩)
      · exact Or.inl z
      · exact Or.inr ⟨k, a, b, (hD (P t) i k hi (by omega) (Or.inl h1)).mp z1, (hD t k j b hj (Or.inr ⟨rfl, a⟩)).mp z2⟩
    · rintro (z | ⟨k, a, b, z1, z2⟩)
      · exact Or.inl z
      · exact Or.inr ⟨k, a, b, (hD (P t) i k hi (by omega) (Or.inl h1)).mpr z1, (hD t k j b hj (Or.inr ⟨rfl, a⟩)).mpr z2⟩
  · rw [h]
    have h1 := h56 (Or.inr h)
    refine br_f (by decide) (br_f (by decide) (br_f (by decide) (br_f (by decide) (br_f (by decide) (br_f (by decide) (br_f (by decide) (br_f (by decide) (br_t (by decide) ?_))))))))
    rw [nI_1]
    refine lx_aft ht hs (by omega) fun v hv => hp _ fun j hj => ?_
    rw [b_or, Bool.or_eq_true, hv j hj, lx_M6 h h1, hx5, hD (P t) i j hi hj (Or.inl h1)]
    constructor
    · rintro (z | ⟨k, a, b, z1, z2⟩)
      · exact Or.inl z
      · exact Or.inr ⟨k, a, b, (hD (P t) i k hi (by omega) (Or.inl h1)).mp z1, (hD t k j b hj (Or.inr ⟨rfl, a⟩)).mp z2⟩
    · rintro (z | ⟨k, a, b, z1, z2⟩)
      · exact Or.inl z
      · exact Or.inr ⟨k, a, b, (hD (P t) i k hi (by omega) (Or.inl h1)).mpr z1, (hD t k j b hj (Or.inr ⟨rfl, a⟩)).mpr z2⟩
  · rw [h]
    refine br_f (by decide) (br_t (by decide) (hp _ fun j hj => ?_))
    rw [b_0]
    exact ⟨(fun z => nomatch z), fun z => absurd z (lx_M7 h)⟩
end
end
section
section
variable {f0 f1 f2 f3 f4 : Int32} {c l fi se st ru tx en ws wl cn : Nat → Int32}
theorem lx_DX_put {M : Nat → Nat → Nat → Prop} {s t i : Nat} {v : Int32} (hs : s ≤ 30) (hi : i ≤ s) (h : lx_DX M en s t (i + 1)) (hv : ∀ j, j < 32 → (bt v j = true ↔ M t i j)) : lx_DX M (upd en (t * 31 + i) v) s t i := by
  intro t' i' j h1 h2 h3
  by_cases hk : t' * 31 + i' = t * 31 + i
  · have h4 : t' = t := by omega
    have h5 : i' = i := by omega
    subst h4 h5
    rw [pk_us]
    exact hv j h2
  · rw [pk_un hk]
    refine h t' i' j h1 h2 ?_
    rcases h3 with h3 | ⟨h3, h4⟩
    · exact Or.inl h3
    · subst h3
      refine Or.inr ⟨rfl, ?_⟩
      rcases Nat.lt_or_ge i i' with h5 | h5
      · exact h5
      · exact absurd (by omega) hk
theorem lx_fe13_text {post : SX → Prop} {J : Int32 → (Nat → Int32) → (Nat → Int32) → (Nat → Int32) → (Nat → Int32) → (Nat → Int32) → (Nat → Int32) → (Nat → Int32) → (Nat → Int32) → (Nat → Int32) → (Nat → Int32) → (Nat → Int32) → Prop} {C P Q : Nat → Nat} {e : Nat → Nat → Prop} {t s : Nat} (ht : t < 40) (hs : s ≤ 30) (hsN : s ≤ 30)
    (N : lx_NX c fi se C P Q t) (he : ∀ i, i < s → (tx i = l t ↔ e t i))
    (hJ : ∀ en', lx_DX (lx_M C P Q e s) en' s (t + 1) (s + 1) → J (nI (t + 1)) c l fi se st ru tx en' ws wl cn) :
    ∀ d en, d ≤ s + 1 → lx_DX (lx_M C P Q e s) en s t d → wX_findEnds__text_13 post J (nI s) (nI t) f0 f1 f2 f3 f4 (d + 1) (lx_dn d) c l fi se st ru tx en ws wl cn := by
  intro d
  induction d with
  | zero =>
    intro en hd hD
    refine br_t (show (-1 : Int32) < 0 by decide) (nm_r (nI_1 t) (hJ en ?_))
    intro t' i' j h1 h2 h3
    refine hD t' i' j h1 h2 ?_
    rcases Nat.lt_or_ge t' t with h | h
    · exact Or.inl h
    · exact Or.inr ⟨by omega, by omega⟩
  | succ d ih =>
    intro en hd hD
    show wX_findEnds__text_13 post J (nI s) (nI t) f0 f1 f2 f3 f4 (d + 1 + 1) (nI d) c l fi se st ru tx en ws wl cn
    refine br_f (nI_pos (show d < 2 ^ 31 by omega)) ?_
    refine lx_eo_text ht (by omega) hs hsN N hD he fun v hv => ?_
    show vp_in (nI t * 31 + nI d) 1240 ∧ _
    rw [lx_ix, nI_clamp (show t * 31 + d < 2 ^ 31 by omega)]
    refine ⟨vp_in_nI (by omega) (by omega), nm_e (nm_r (lx_dn_m d) ?_)⟩
    exact ih _ (by omega) (lx_DX_put hs (by omega) hD hv)
theorem lx_fe2_text {post : SX → Prop} {C P Q : Nat → Nat} {e : Nat → Nat → Prop} {T s : Nat} (hT : T ≤ 40) (hs : s ≤ 30) (hsN : s ≤ 30)
    (N : ∀ t, t < T → lx_NX c fi se C P Q t) (he : ∀ t i, i < s → (tx i = l t ↔ e t i))
    (hp : ∀ en', lx_DX (lx_M C P Q e s) en' s T (s + 1) → post (nI T, f1, f2, f3, f4, c, l, fi, se, st, ru, tx, en', ws, wl, cn)) :
    ∀ d t en, t + d = T → lx_DX (lx_M C P Q e s) en s t (s + 1) → wX_findEnds__text_2 post (nI s) (nI T) f1 f2 f3 f4 (d + 1) (nI t) c l fi se st ru tx en ws wl cn := by
  intro d
  induction d with
  | zero =>
    intro t en hd hD
    have ht : t = T := by omega
    subst ht
    exact br_t (nI_le (Nat.le_refl _) (by omega)) (hp en hD)
  | succ d ih =>
    intro t en hd hD
    refine br_f (nI_ge (by omega) (by omega)) ⟨s + 2, ?_⟩
    exact lx_fe13_text (by omega) hs hsN (N t (by omega)) (he t) (fun en' h => ih (t + 1) en' (by omega) h) (s + 1) en (by omega) hD
theorem lx_fe_text {post : SX → Prop} {C P Q : Nat → Nat} {e : Nat → Nat → Prop} {T s : Nat} (hT : T ≤ 40) (hs : s ≤ 30) (hsN : s ≤ 30)
    (N : ∀ t, t < T → lx_NX c fi se C P Q t) (he : ∀ t i, i < s → (tx i = l t ↔ e t i))
    (hp : ∀ en', lx_DX (lx_M C P Q e s) en' s T (s + 1) → post (nI T, f1, f2, f3, f4, c, l, fi, se, st, ru, tx, en', ws, wl, cn)) :
    wpX_findEnds__text post (nI T, f1, f2, f3, f4, c, l, fi, se, st, ru, tx, en, ws, wl, cn) (nI s) :=
  ⟨T + 1, lx_fe2_text hT hs hsN N he hp T 0 en (by omega) (fun t' i' j h1 h2 h3 => by omega)⟩
theorem lx_fe13_counted {post : SX → Prop} {J : Int32 → (Nat → Int32) → (Nat → Int32) → (Nat → Int32) → (Nat → Int32) → (Nat → Int32) → (Nat → Int32) → (Nat → Int32) → (Nat → Int32) → (Nat → Int32) → (Nat → Int32) → (Nat → Int32) → Prop} {C P Q : Nat → Nat} {e : Nat → Nat → Prop} {t s : Nat} (ht : t < 40) (hs : s ≤ 30) (hsN : s ≤ 4)
    (N : lx_NX c fi se C P Q t) (he : ∀ i, i < s → (cn i = l t ↔ e t i))
    (hJ : ∀ en', lx_DX (lx_M C P Q e s) en' s (t + 1) (s + 1) → J (nI (t + 1)) c l fi se st ru tx en' ws wl cn) :
    ∀ d en, d ≤ s + 1 → lx_DX (lx_M C P Q e s) en s t d → wX_findEnds__counted_13 post J (nI s) (nI t) f0 f1 f2 f3 f4 (d + 1) (lx_dn d) c l fi se st ru tx en ws wl cn := by
  intro d
  induction d with
  | zero =>
    intro en hd hD
    refine br_t (show (-1 : Int32) < 0 by decide) (nm_r (nI_1 t) (hJ en ?_))
    intro t' i' j h1 h2 h3
    refine hD t' i' j h1 h2 ?_
    rcases Nat.lt_or_ge t' t with h | h
    · exact Or.inl h
    · exact Or.inr ⟨by omega, by omega⟩
  | succ d ih =>
    intro en hd hD
    show wX_findEnds__counted_13 post J (nI s) (nI t) f0 f1 f2 f3 f4 (d + 1 + 1) (nI d) c l fi se st ru tx en ws wl cn
    refine br_f (nI_pos (show d < 2 ^ 31 by omega)) ?_
    refine lx_eo_counted ht (by omega) hs hsN N hD he fun v hv => ?_
    show vp_in (nI t * 31 + nI d) 1240 ∧ _
    rw [lx_ix, nI_clamp (show t * 31 + d < 2 ^ 31 by omega)]
    refine ⟨vp_in_nI (by omega) (by omega), nm_e (nm_r (lx_dn_m d) ?_)⟩
    exact ih _ (by omega) (lx_DX_put hs (by omega) hD hv)
theorem lx_fe2_counted {post : SX → Prop} {C P Q : Nat → Nat} {e : Nat → Nat → Prop} {T s : Nat} (hT : T ≤ 40) (hs : s ≤ 30) (hsN : s ≤ 4)
    (N : ∀ t, t < T → lx_NX c fi se C P Q t) (he : ∀ t i, i < s → (cn i = l t ↔ e t i))
    (hp : ∀ en', lx_DX (lx_M C P Q e s) en' s T (s + 1) → post (nI T, f1, f2, f3, f4, c, l, fi, se, st, ru, tx, en', ws, wl, cn)) :
    ∀ d t en, t + d = T → lx_DX (lx_M C P Q e s) en s t (s + 1) → wX_findEnds__counted_2 post (nI s) (nI T) f1 f2 f3 f4 (d + 1) (nI t) c l fi se st ru tx en ws wl cn := by
  intro d
  induction d with
  | zero =>
    intro t en hd hD
    have ht : t = T := by omega
    subst ht
    exact br_t (nI_le (Nat.le_refl _) (by omega)) (hp en hD)
  | succ d ih =>
    intro t en hd hD
    refine br_f (nI_ge (by omega) (by omega)) ⟨s + 2, ?_⟩
    exact lx_fe13_counted (by omega) hs hsN (N t (by omega)) (he t) (fun en' h => ih (t + 1) en' (by omega) h) (s + 1) en (by omega) hD
theorem lx_fe_counted {post : SX → Prop} {C P Q : Nat → Nat} {e : Nat → Nat → Prop} {T s : Nat} (hT : T ≤ 40) (hs : s ≤ 30) (hsN : s ≤ 4)
    (N : ∀ t, t < T → lx_NX c fi se C P Q t) (he : ∀ t i, i < s → (cn i = l t ↔ e t i))
    (hp : ∀ en', lx_DX (lx_M C P Q e s) en' s T (s + 1) → post (nI T, f1, f2, f3, f4, c, l, fi, se, st, ru, tx, en', ws, wl, cn)) :
    wpX_findEnds__counted post (nI T, f1, f2, f3, f4, c, l, fi, se, st, ru, tx, en, ws, wl, cn) (nI s) :=
  ⟨T + 1, lx_fe2_counted hT hs hsN N he hp T 0 en (by omega) (fun t' i' j h1 h2 h3 => by omega)⟩
end
end
section
section
variable {g0 g1 g2 g3 g4 : Int32} {c l le ri st ru tx rw ft : Nat → Int32}
theorem lx_n0 : narrow .boolean (.int (0 : Int32)) = .int (0 : Int32) := rfl
theorem lx_n1 : narrow .boolean (.int (1 : Int32)) = .int (1 : Int32) := rfl
theorem lx_v0 : vp_nar .boolean (0 : Int32) = 0 := rfl
theorem lx_v1 : vp_nar .boolean (1 : Int32) = 1 := rfl
theorem lx_is {post : Int32 → Prop} {M : Nat → Nat → Nat → Prop} {t i j : Nat} (ht : t < 40) (hi : i ≤ 30) (hj : j ≤ 30) (hV : lx_V M ft t i j)
    (h1 : M t i j → post 1) (h0 : ¬ M t i j → post 0) : wpY_is post (g0, g1, g2, g3, g4, c, l, le, ri, st, ru, tx, rw, ft, 38440) (nI t) (nI i) (nI j) := by
  unfold wpY_is
  dsimp only
  rw [lx_iy, nI_clamp (show 961 * t + 31 * i + j < 2 ^ 31 by omega)]
  refine ⟨vp_in_nI (by omega) (by omega), ?_⟩
  rcases hV with ⟨e, m⟩ | ⟨e, m⟩
  · rw [e]; exact ⟨lx_n1, h1 m⟩
  · rw [e]; exact ⟨lx_n0, h0 m⟩
theorem lx_both6 {post : Int32 → Prop} {M : Nat → Nat → Nat → Prop} {a b i j lo : Nat} (ha : a < 40) (hb : b < 40) (hi : i ≤ 30) (hj : j ≤ 30)
    (hA : ∀ k, lo ≤ k → k ≤ j → lx_V M ft a i k) (hB : ∀ k, lo ≤ k → k ≤ j → lx_V M ft b k j)
    (h1 : (∃ k, lo ≤ k ∧ k ≤ j ∧ M a i k ∧ M b k j) → post 1) (h0 : ¬ (∃ k, lo ≤ k ∧ k ≤ j ∧ M a i k ∧ M b k j) → post 0) :
    ∀ d k, lo ≤ k → (k + d = j + 1 ∨ d = 0 ∧ j < k) → k ≤ 31 → (∀ k', lo ≤ k' → k' < k → ¬ (M a i k' ∧ M b k' j)) → wY_both_6 post (nI a) (nI b) (nI i) (nI j) g0 g1 g2 g3 g4 c l le ri st ru tx rw ft 38440 (d + 1) (nI k) := by
  intro d
  induction d with
  | zero =>
    intro k hl hk h31 hn
    refine br_t (nI_lt (by omega) (by omega)) (h0 ?_)
    rintro ⟨k', z1, z2, z3⟩
    exact hn k' z1 (by omega) z3
  | succ d ih =>
    intro k hl hk h31 hn
    have step : ¬ (M a i k ∧ M b k j) → wY_both_6 post (nI a) (nI b) (nI i) (nI j) g0 g1 g2 g3 g4 c l le ri st ru tx rw ft 38440 (d + 1) (nI (k + 1)) := by
      intro z
      refine ih (k + 1) (by omega) (by omega) (by omega) fun k' z1 z2 => ?_
      by_cases hkk : k' = k
      · subst hkk; exact z
      · exact hn k' z1 (by omega)
    refine br_f (nI_nlt (by omega) (by omega)) ?_
    refine lx_is ha hi (by omega) (hA k hl (by omega)) (fun m => ?_) (fun m => ?_)
    · refine br_f (by decide) ?_
      refine lx_is hb (by omega) hj (hB k hl (by omega)) (fun m' => ?_) (fun m' => ?_)
      · exact br_f (by decide) (h1 ⟨k, hl, by omega, m, m'⟩)
      · exact br_t rfl (nm_r (nI_1 k) (step fun z => m' z.2))
    · exact br_t rfl (nm_r (nI_1 k) (step fun z => m z.1))
theorem lx_both {post : Int32 → Prop} {M : Nat → Nat → Nat → Prop} {a b i j lo : Nat} {x : Int32} (hx : nI i + x = nI lo) (ha : a < 40) (hb : b < 40) (hi : i ≤ 30) (hj : j ≤ 30) (hlo : lo ≤ 31)
    (hA : ∀ k, lo ≤ k → k ≤ j → lx_V M ft a i k) (hB : ∀ k, lo ≤ k → k ≤ j → lx_V M ft b k j)
    (h1 : (∃ k, lo ≤ k ∧ k ≤ j ∧ M a i k ∧ M b k j) → post 1) (h0 : ¬ (∃ k, lo ≤ k ∧ k ≤ j ∧ M a i k ∧ M b k j) → post 0) :
    wpY_both post (g0, g1, g2, g3, g4, c, l, le, ri, st, ru, tx, rw, ft, 38440) (nI a) (nI b) (nI i) (nI j) x := by
  refine nm_r hx ⟨j + 1 - lo + 1, lx_both6 ha hb hi hj hA hB h1 h0 (j + 1 - lo) lo (Nat.le_refl _) ?_ hlo fun k' z1 z2 => ?_⟩
  · rcases Nat.lt_or_ge (j + 1) lo with h | h
    · exact Or.inr ⟨by omega, by omega⟩
    · exact Or.inl (by omega)
  · omega
theorem lx_matched {post : Int32 → Prop} {C P Q : Nat → Nat} {e : Nat → Nat → Prop} {t i j s : Nat} (ht : t < 40) (hij : i ≤ j) (hj : j ≤ s) (hs : s ≤ 30)
    (N : lx_NY c le ri C P Q t) (he : ∀ i, i < s → (rw i = l t ↔ e t i))
    (hA : ∀ t' i' j', t' < t → i' ≤ s → j' ≤ s → lx_V (lx_M C P Q e s) ft t' i' j') (hB : ∀ i' j', i < i' → i' ≤ s → j' ≤ s → lx_V (lx_M C P Q e s) ft t i' j')
    (h1 : lx_M C P Q e s t i j → post 1) (h0 : ¬ lx_M C P Q e s t i j → post 0) :
    wpY_matched post (g0, g1, g2, g3, g4, c, l, le, ri, st, ru, tx, rw, ft, 38440) (nI t) (nI i) (nI j) := by
  obtain ⟨hc, hc8, h34, h56⟩ := N
  unfold wpY_matched
  dsimp only
  rw [nI_clamp (show t < 2 ^ 31 by omega)]
  refine ⟨vp_in_nI ht (by omega), ?_⟩
  refine nm_r hc ⟨vp_in_nI ht (by omega), ?_⟩
  have hcs : C t = 0 ∨ C t = 1 ∨ C t = 2 ∨ C t = 3 ∨ C t = 4 ∨ C t = 5 ∨ C t = 6 ∨ C t = 7 := by omega
  rcases hcs with h | h | h | h | h | h | h | h
  · rw [h, nI_1, nI_clamp (show i < 2 ^ 31 by omega)]
    refine nm_e (br_t (by decide) (pk_eq j (i + 1) (fun z => ?_) (fun z => h0 fun m => ?_)))
    · refine ⟨vp_in_nI (by omega) (by omega), vp_in_nI ht (by omega), br_c (fun y => h1 ?_) (fun y => h0 fun m => ?_)⟩
      · exact (lx_M0 h).mpr ⟨by omega, z, (he i (by omega)).mp y⟩
      · exact y ((he i (by omega)).mpr ((lx_M0 h).mp m).2.2)
    · exact z ((lx_M0 h).mp m).2.1
  · rw [h, nI_1]
    refine nm_e (br_f (by decide) (br_t (by decide) (pk_eq j (i + 1) (fun z => h1 ?_) (fun z => h0 fun m => ?_))))
    · exact (lx_M1 h).mpr ⟨by omega, z⟩
    · exact z ((lx_M1 h).mp m).2
  · rw [h]
    refine nm_e (br_f (by decide) (br_f (by decide) (br_t (by decide) (pk_eq i j (fun z => h1 ?_) (fun z => h0 fun m => ?_)))))
    · exact (lx_M2 h).mpr z.symm
    · exact z ((lx_M2 h).mp m).symm
  · obtain ⟨p1, q1, e1, e2⟩ := h34 (Or.inl h)
    rw [h]
    refine nm_r e2 (br_f (by decide) (br_f (by decide) (br_f (by decide) (br_t (by decide) ⟨vp_in_nI ht (by omega), ?_⟩))))
    rw [e1]
    refine lx_both (M := lx_M C P Q e s) (lo := i) (Int32.add_zero _) (by omega) (by omega) (by omega) (by omega) (by omega) (fun k _ z => hA _ _ _ p1 (by omega) (by omega)) (fun k _ z => hA _ _ _ q1 (by omega) (by omega)) (fun z => ?_) (fun z => ?_)
    · refine ⟨lx_n1, h1 ((lx_M3 h p1 q1).mpr ?_)⟩
      obtain ⟨k, a, b, m⟩ := z
      exact ⟨k, a, by omega, m⟩
    · refine ⟨lx_n0, h0 fun m => z ?_⟩
      obtain ⟨k, a, b, m1, m2⟩ := (lx_M3 h p1 q1).mp m
      exact ⟨k, a, (lx_le C P Q e s _ _ _ b m2).1, m1, m2⟩
  · obtain ⟨p1, q1, e1, e2⟩ := h34 (Or.inr h)
    rw [h]
    refine nm_r e2 (br_f (by decide) (br_f (by decide) (br_f (by decide) (br_f (by decide) (br_t (by decide) ⟨vp_in_nI ht (by omega), ?_⟩)))))
    rw [e1]
    refine lx_is (by omega) (by omega) (by omega) (hA _ _ _ p1 (by omega) hj) (fun m => ?_) (fun m => ?_)
    · exact br_f (by decide) (h1 ((lx_M4 h p1 q1).mpr (Or.inl m)))
    · refine br_t rfl (lx_is (by omega) (by omega) (by omega) (hA _ _ _ q1 (by omega) hj) (fun m' => ?_) (fun m' => ?_))
      · exact br_f (by decide) (h1 ((lx_M4 h p1 q1).mpr (Or.inr m')))
      · exact br_t rfl (h0 fun z => ((lx_M4 h p1 q1).mp z).elim m m')
  · obtain ⟨p1, e2⟩ := h56 (Or.inl h)
    rw [h]
    refine nm_r e2 (br_f (by decide) (br_f (by decide) (br_f (by decide) (br_f (by decide) (br_f (by decide) (br_f (by decide) ?_))))))
    refine lx_both (M := lx_M C P Q e s) (lo := i + 1) (nI_1 i) (by omega) (by omega) (by omega) (by omega) (by omega) (fun k _ z => hA _ _ _ p1 (by omega) (by omega)) (fun k y z => hB _ _ (by omega) (by omega) (by omega)) (fun z => ?_) (fun z => ?_)
    · refine br_t (by decide) (pk_eq i j (fun y => h1 ((lx_M5 h p1).mpr (Or.inl y.symm))) (fun y => br_f (by decide) (h1 ((lx_M5 h p1).mpr (Or.inr ?_)))))
      obtain ⟨k, a, b, m⟩ := z
      exact ⟨k, by omega, by omega, m⟩
    · refine br_t (by decide) (pk_eq i j (fun y => h1 ((lx_M5 h p1).mpr (Or.inl y.symm))) (fun y => br_t rfl (h0 fun m => ?_)))
      rcases (lx_M5 h p1).mp m with m | ⟨k, a, b, m1, m2⟩
      · exact y m.symm
      · exact z ⟨k, a, (lx_le C P Q e s _ _ _ b m2).1, m1, m2⟩
  · obtain ⟨p1, e2⟩ := h56 (Or.inr h)
    rw [h]
    refine nm_r e2 (br_f (by decide) (br_f (by decide) (br_f (by decide) (br_f (by decide) (br_f (by decide) (br_f (by decide) ?_))))))
    refine lx_both (M := lx_M C P Q e s) (lo := i + 1) (nI_1 i) (by omega) (by omega) (by omega) (by omega) (by omega) (fun k _ z => hA _ _ _ p1 (by omega) (by omega)) (fun k y z => hB _ _ (by omega) (by omega) (by omega)) (fun z => ?_) (fun z => ?_)
    · refine br_f (by decide) (lx_is (by omega) (by omega) (by omega) (hA _ _ _ p1 (by omega) hj) (fun m => ?_) (fun m => ?_))
      · exact br_f (by decide) (h1 ((lx_M6 h p1).mpr (Or.inl m)))
      · refine br_t rfl (br_f (by decide) (h1 ((lx_M6 h p1).mpr (Or.inr ?_))))
        obtain ⟨k, a, b, m⟩ := z
        exact ⟨k, by omega, by omega, m⟩
    · refine br_f (by decide) (lx_is (by omega) (by omega) (by omega) (hA _ _ _ p1 (by omega) hj) (fun m => ?_) (fun m => ?_))
      · exact br_f (by decide) (h1 ((lx_M6 h p1).mpr (Or.inl m)))
      · refine br_t rfl (br_t rfl (h0 fun m' => ?_))
        rcases (lx_M6 h p1).mp m' with m' | ⟨k, a, b, m1, m2⟩
        · exact m m'
        · exact z ⟨k, a, (lx_le C P Q e s _ _ _ b m2).1, m1, m2⟩
  · rw [h]
    refine nm_e (br_f (by decide) (br_f (by decide) (br_f (by decide) (br_f (by decide) (br_f (by decide) (br_t (by decide) (h0 (lx_M7 h))))))))
end
end
section
/-- Y's table holds M below node t, and at node t the first p places of its walk -/
def lx_DY (M : Nat → Nat → Nat → Prop) (ft : Nat → Int32) (s t p : Nat) : Prop :=
  ∀ t' i' j', i' ≤ s → j' ≤ s → (t' < t ∨ t' = t ∧ (s - i') * (s + 1) + j' < p) → lx_V M ft t' i' j'
theorem lx_inj {a b m x y : Nat} (hx : x < m) (hy : y < m) (h : a * m + x = b * m + y) : a = b ∧ x = y := by
  have h1 : a = b := by
    rcases Nat.lt_trichotomy a b with z | z | z
    · have h2 := Nat.mul_le_mul_right m (show a + 1 ≤ b from z)
      rw [Nat.succ_mul] at h2
      omega
    · exact z
    · have h2 := Nat.mul_le_mul_right m (show b + 1 ≤ a from z)
      rw [Nat.succ_mul] at h2
      omega
  subst h1
  omega
theorem lx_ps {s a j : Nat} (ha : a ≤ s) (hj : j ≤ s) : a * (s + 1) + j < (s + 1) * (s + 1) := by
  have h1 := Nat.mul_le_mul_right (s + 1) ha
  have h2 : (s + 1) * (s + 1) = s * (s + 1) + (s + 1) := Nat.succ_mul s (s + 1)
  omega
theorem lx_DY_put {M : Nat → Nat → Nat → Prop} {ft : Nat → Int32} {s t i j p : Nat} {v : Int32} (hs : s ≤ 30) (hi : i ≤ s) (hj : j ≤ s) (hp : p = (s - i) * (s + 1) + j) (h : lx_DY M ft s t p) (hv : (v = 1 ∧ M t i j) ∨ (v = 0 ∧ ¬ M t i j)) : lx_DY M (upd ft (961 * t + 31 * i + j) v) s t (p + 1) := by
  intro t' i' j' h1 h2 h3
  unfold lx_V
  by_cases hk : 961 * t' + 31 * i' + j' = 961 * t + 31 * i + j
  · have h4 : t' = t := by omega
    subst h4
    have h5 : i' = i := by omega
    subst h5
    have h6 : j' = j := by omega
    subst h6
    rw [pk_us]
    exact hv
  · rw [pk_un hk]
    refine h t' i' j' h1 h2 ?_
    rcases h3 with h3 | ⟨h3, h4⟩
    · exact Or.inl h3
    · subst h3
      refine Or.inr ⟨rfl, ?_⟩
      rcases Nat.lt_or_ge ((s - i') * (s + 1) + j') p with h5 | h5
      · exact h5
      · exfalso
        obtain ⟨z1, z2⟩ := lx_inj (a := s - i') (b := s - i) (m := s + 1) (x := j') (y := j) (by omega) (by omega) (by omega)
        omega
section
variable {g0 g1 g2 g3 g4 : Int32} {c l le ri st ru tx rw ft : Nat → Int32}
theorem lx_w12 {post : SY → Prop} {J : Int32 → (Nat → Int32) → (Nat → Int32) → (Nat → Int32) → (Nat → Int32) → (Nat → Int32) → (Nat → Int32) → (Nat → Int32) → (Nat → Int32) → (Nat → Int32) → Prop} {C P Q : Nat → Nat} {e : Nat → Nat → Prop} {t s : Nat} (ht : t < 40) (hs : s ≤ 30)
    (N : lx_NY c le ri C P Q t) (he : ∀ i, i < s → (rw i = l t ↔ e t i))
    (hJ : ∀ ft', lx_DY (lx_M C P Q e s) ft' s (t + 1) 0 → J (nI (t + 1)) c l le ri st ru tx rw ft') :
    ∀ d p ft, p + d = (s + 1) * (s + 1) → lx_DY (lx_M C P Q e s) ft s t p → wY_work_12 post J (nI t) g0 g1 g2 g3 (nI s) 38440 (d + 1) (nI p) c l le ri st ru tx rw ft := by
  have hK : (s + 1) * (s + 1) ≤ 961 := Nat.mul_le_mul (show s + 1 ≤ 31 by omega) (show s + 1 ≤ 31 by omega)
  have hq : (nI s + 1) * (nI s + 1) = nI ((s + 1) * (s + 1)) := by rw [nI_1, pk_mul]
  have hne : ¬ (nI s + 1) = 0 := by rw [nI_1]; exact nI_ne0 (by omega) (by omega)
  intro d
  induction d with
  | zero =>
    intro p ft hd hD
    refine br_t (by rw [hq]; exact nI_le (by omega) (by omega)) (nm_r (nI_1 t) (hJ ft ?_))
    intro t' i' j' h1 h2 h3
    refine hD t' i' j' h1 h2 ?_
    rcases Nat.lt_or_ge t' t with h | h
    · exact Or.inl h
    · refine Or.inr ⟨by omega, ?_⟩
      have h4 := lx_ps (s := s) (a := s - i') (j := j') (by omega) h2
      omega
  | succ d ih =>
    intro p ft hd hD
    have ha : p / (s + 1) < s + 1 := Nat.div_lt_of_lt_mul (by omega)
    have hj : p % (s + 1) < s + 1 := Nat.mod_lt _ (by omega)
    have hpe : p = p / (s + 1) * (s + 1) + p % (s + 1) := (Nat.div_add_mod' p (s + 1)).symm
    generalize hae : p / (s + 1) = a at ha hpe
    generalize hje : p % (s + 1) = j at hj hpe
    refine br_f (by rw [hq]; exact nI_ge (by omega) (by omega)) ⟨hne, ?_⟩
    refine nm_r (e' := nI (s - a)) (by rw [nI_1, pk_div (by omega) (by omega) (by omega), hae, pk_sub (by omega)]) ⟨hne, ?_⟩
    refine nm_r (e' := nI j) (by rw [nI_1, pk_rem (by omega) (by omega) (by omega), hje]) ?_
    have hsa : s - (s - a) = a := by omega
    have hput : ∀ v : Int32, ((v = 1 ∧ lx_M C P Q e s t (s - a) j) ∨ (v = 0 ∧ ¬ lx_M C P Q e s t (s - a) j)) → vp_in (961 * nI t + 31 * nI (s - a) + nI j) 38440 ∧ ∀ y, y = upd ft (961 * nI t + 31 * nI (s - a) + nI j).toNatClampNeg v → ∀ x, x = nI p + 1 → wY_work_12 post J (nI t) g0 g1 g2 g3 (nI s) 38440 (d + 1) x c l le ri st ru tx rw y := by
      intro v hv
      rw [lx_iy, nI_clamp (show 961 * t + 31 * (s - a) + j < 2 ^ 31 by omega)]
      refine ⟨vp_in_nI (by omega) (by omega), nm_e (nm_r (nI_1 p) (ih (p + 1) _ (by omega) ?_))⟩
      exact lx_DY_put hs (by omega) (by omega) (by rw [hsa]; exact hpe) hD hv
    refine pk_lt j (s - a) (fun z => ?_) (fun z => ?_)
    · refine hput _ (Or.inr ⟨lx_v0, fun m => ?_⟩)
      have h4 := lx_le C P Q e s t (s - a) j (by omega) m
      omega
    · refine lx_matched ht z (by omega) hs N he (fun t' i' j' h1 h2 h3 => hD t' i' j' h2 h3 (Or.inl h1)) (fun i' j' h1 h2 h3 => hD t i' j' h2 h3 (Or.inr ⟨rfl, ?_⟩)) (fun m => ?_) (fun m => ?_)
      · have h4 := Nat.mul_le_mul_right (s + 1) (show (s - i') + 1 ≤ a by omega)
        rw [Nat.succ_mul] at h4
        omega
      · exact br_f (by decide) (hput _ (Or.inl ⟨lx_v1, m⟩))
      · exact br_t rfl (hput _ (Or.inr ⟨lx_v0, m⟩))
theorem lx_w2 {post : SY → Prop} {C P Q : Nat → Nat} {e : Nat → Nat → Prop} {T s : Nat} (hT : T ≤ 40) (hs : s ≤ 30)
    (N : ∀ t, t < T → lx_NY c le ri C P Q t) (he : ∀ t i, i < s → (rw i = l t ↔ e t i))
    (hp : ∀ ft', (∀ t i j, t < T → i ≤ s → j ≤ s → lx_V (lx_M C P Q e s) ft' t i j) → post (nI T, g1, g2, g3, nI s, c, l, le, ri, st, ru, tx, rw, ft', 38440)) :
    ∀ d t ft, t + d = T → lx_DY (lx_M C P Q e s) ft s t 0 → wY_work_2 post (nI T) g1 g2 g3 (nI s) 38440 (d + 1) (nI t) c l le ri st ru tx rw ft := by
  intro d
  induction d with
  | zero =>
    intro t ft hd hD
    have ht : t = T := by omega
    subst ht
    exact br_t (nI_le (Nat.le_refl _) (by omega)) (hp ft fun t' i' j' h1 h2 h3 => hD t' i' j' h2 h3 (Or.inl h1))
  | succ d ih =>
    intro t ft hd hD
    refine br_f (nI_ge (by omega) (by omega)) ⟨(s + 1) * (s + 1) + 1, ?_⟩
    exact lx_w12 (by omega) hs (N t (by omega)) (he t) (fun ft' h => ih (t + 1) ft' (by omega) h) ((s + 1) * (s + 1)) 0 ft (by omega) hD
theorem lx_work {post : SY → Prop} {C P Q : Nat → Nat} {e : Nat → Nat → Prop} {T s : Nat} (hT : T ≤ 40) (hs : s ≤ 30)
    (N : ∀ t, t < T → lx_NY c le ri C P Q t) (he : ∀ t i, i < s → (rw i = l t ↔ e t i))
    (hp : ∀ ft', (∀ t i j, t < T → i ≤ s → j ≤ s → lx_V (lx_M C P Q e s) ft' t i j) → post (nI T, g1, g2, g3, nI s, c, l, le, ri, st, ru, tx, rw, ft', 38440)) :
    wpY_work post (nI T, g1, g2, g3, nI s, c, l, le, ri, st, ru, tx, rw, ft, 38440) :=
  ⟨T + 1, lx_w2 hT hs N he hp T 0 ft (by omega) (fun t' i' j h1 h2 h3 => by omega)⟩
theorem lx_wt10 {post : SY → Prop} {C P Q : Nat → Nat} {e : Nat → Nat → Prop} {T s : Nat} (hT : T ≤ 40) (hs : s ≤ 30)
    (N : ∀ t, t < T → lx_NY c le ri C P Q t) (he : ∀ t i, i < s → (tx i = l t ↔ e t i))
    (hp : ∀ rw' ft', (∀ t i j, t < T → i ≤ s → j ≤ s → lx_V (lx_M C P Q e s) ft' t i j) → post (nI T, g1, g2, nI s, nI s, c, l, le, ri, st, ru, tx, rw', ft', 38440)) :
    ∀ d i rw, i + d = s → (∀ i', i' < i → rw i' = tx i') → wY_workText_10 post (nI T) g1 g2 (nI s) (nI s) 38440 (d + 1) (nI i) c l le ri st ru tx rw ft := by
  intro d
  induction d with
  | zero =>
    intro i rw hd hr
    have hi : i = s := by omega
    subst hi
    refine br_t (nI_le (Nat.le_refl _) (by omega)) (lx_work hT hs N (fun t i h => ?_) (fun ft' h => hp rw ft' h))
    rw [hr i h]
    exact he t i h
  | succ d ih =>
    intro i rw hd hr
    refine br_f (nI_ge (by omega) (by omega)) ?_
    rw [nI_clamp (show i < 2 ^ 31 by omega)]
    refine ⟨vp_in_nI (by omega) (by omega), vp_in_nI (by omega) (by omega), nm_e (nm_r (nI_1 i) (ih (i + 1) _ (by omega) fun i' h => ?_))⟩
    by_cases hk : i' = i
    · subst hk; exact pk_us
    · rw [pk_un hk]; exact hr i' (by omega)
theorem lx_wt {post : SY → Prop} {C P Q : Nat → Nat} {e : Nat → Nat → Prop} {T s : Nat} (hT : T ≤ 40) (hs : s ≤ 30)
    (N : ∀ t, t < T → lx_NY c le ri C P Q t) (he : ∀ t i, i < s → (tx i = l t ↔ e t i))
    (hp : ∀ rw' ft', (∀ t i j, t < T → i ≤ s → j ≤ s → lx_V (lx_M C P Q e s) ft' t i j) → post (nI T, g1, g2, nI s, nI s, c, l, le, ri, st, ru, tx, rw', ft', 38440)) :
    wpY_workText post (nI T, g1, g2, nI s, g4, c, l, le, ri, st, ru, tx, rw, ft, 38440) :=
  ⟨s + 1, lx_wt10 hT hs N he hp s 0 rw (by omega) (fun i' h => absurd h (Nat.not_lt_zero _))⟩
end
end
section
section
variable {f0 f1 f2 f3 f4 : Int32} {c l fi se st ru tx en ws wl cn : Nat → Int32}
theorem lx_isRow {post : Int32 → Prop} {M : Nat → Nat → Nat → Prop} {A : Nat → Nat} {T s r i j : Nat} (hT : T ≤ 40) (hs : s ≤ 30) (hr : r < 5) (hru : ru r = nI (A r)) (hA : A r < T) (hi : i ≤ s) (hj : j ≤ s)
    (hD : lx_DX M en s T (s + 1)) (h1 : M (A r) i j → post 1) (h0 : ¬ M (A r) i j → post 0) : wpX_isRow post (f0, f1, f2, f3, f4, c, l, fi, se, st, ru, tx, en, ws, wl, cn) (nI r) (nI i) (nI j) := by
  unfold wpX_isRow
  dsimp only
  rw [nI_clamp (show r < 2 ^ 31 by omega), hru, lx_ix, nI_clamp (show A r * 31 + i < 2 ^ 31 by omega)]
  refine ⟨vp_in_nI hr (by omega), vp_in_nI (by omega) (by omega), ?_⟩
  have hd := hD (A r) i j hi (by omega) (Or.inl hA)
  exact br_c (fun z => h1 (hd.mp ((lx_bit _ (by omega)).mp z))) (fun z => h0 fun m => z ((lx_bit _ (by omega)).mpr (hd.mpr m)))
theorem lx_lr2 {post : Int32 → Prop} {M : Nat → Nat → Nat → Prop} {A : Nat → Nat} {T s R i j : Nat} (hT : T ≤ 40) (hs : s ≤ 30) (hR : R ≤ 5) (hA : ∀ r, r < R → ru r = nI (A r) ∧ A r < T) (hi : i ≤ s) (hj : j ≤ s)
    (hD : lx_DX M en s T (s + 1)) : ∀ d r, r + d = R → post (lx_lr (fun r => M (A r) i j) d r) → wX_leastRule_2 post (nI i) (nI j) f0 f1 (nI R) f3 f4 c l fi se st ru tx en ws wl cn (d + 1) (nI r) := by
  intro d
  induction d with
  | zero =>
    intro r hr hp
    exact br_t (nI_le (by omega) (by omega)) hp
  | succ d ih =>
    intro r hr hp
    refine br_f (nI_ge (by omega) (by omega)) ?_
    refine lx_isRow hT hs (by omega) (hA r (by omega)).1 (hA r (by omega)).2 hi hj hD (fun m => ?_) (fun m => ?_)
    · rw [lx_lr_t (B := fun r => M (A r) i j) m] at hp
      exact br_f (by decide) hp
    · rw [lx_lr_f (B := fun r => M (A r) i j) m] at hp
      exact br_t rfl (nm_r (nI_1 r) (ih (r + 1) (by omega) hp))
theorem lx_leastRule {post : Int32 → Prop} {M : Nat → Nat → Nat → Prop} {A : Nat → Nat} {T s R i j : Nat} (hT : T ≤ 40) (hs : s ≤ 30) (hR : R ≤ 5) (hA : ∀ r, r < R → ru r = nI (A r) ∧ A r < T) (hi : i ≤ s) (hj : j ≤ s)
    (hD : lx_DX M en s T (s + 1)) (hp : post (lx_lr (fun r => M (A r) i j) R 0)) : wpX_leastRule post (f0, f1, nI R, f3, f4, c, l, fi, se, st, ru, tx, en, ws, wl, cn) (nI i) (nI j) :=
  ⟨R + 1, lx_lr2 hT hs hR hA hi hj hD R 0 (by omega) hp⟩
theorem lx_eow5 {post : Int32 → Prop} {M : Nat → Nat → Nat → Prop} {A : Nat → Nat} {T s R i : Nat} (hT : T ≤ 40) (hs : s ≤ 30) (hR : R ≤ 5) (hA : ∀ r, r < R → ru r = nI (A r) ∧ A r < T) (hi : i ≤ s)
    (hD : lx_DX M en s T (s + 1)) : ∀ m, m ≤ s → post (nI (lx_ew (fun j => lx_lr (fun r => M (A r) i j) R 0) i m)) → wX_endOfWord_5 post (nI i) f0 f1 (nI R) f3 f4 c l fi se st ru tx en ws wl cn (m + 1) (nI m) := by
  intro m
  induction m with
  | zero =>
    intro hm hp
    rw [lx_ew, ← nI_1] at hp
    exact br_t (nI_le (by omega) (by omega)) hp
  | succ m ih =>
    intro hm hp
    rw [lx_ew] at hp
    by_cases h : m + 1 ≤ i
    · rw [if_pos h, ← nI_1] at hp
      exact br_t (nI_le h (by omega)) hp
    · rw [if_neg h] at hp
      refine br_f (nI_ge (by omega) (by omega)) (lx_leastRule hT hs hR hA hi hm hD ?_)
      by_cases h2 : lx_lr (fun r => M (A r) i (m + 1)) R 0 < 0
      · rw [if_pos h2] at hp
        exact br_t h2 (nm_r (pk_m1 m) (ih (by omega) hp))
      · rw [if_neg h2] at hp
        exact br_f h2 hp
theorem lx_eow {post : Int32 → Prop} {M : Nat → Nat → Nat → Prop} {A : Nat → Nat} {T s R i : Nat} (hT : T ≤ 40) (hs : s ≤ 30) (hR : R ≤ 5) (hA : ∀ r, r < R → ru r = nI (A r) ∧ A r < T) (hi : i ≤ s)
    (hD : lx_DX M en s T (s + 1)) (hp : post (nI (lx_ew (fun j => lx_lr (fun r => M (A r) i j) R 0) i s))) : wpX_endOfWord post (f0, f1, nI R, nI s, f4, c, l, fi, se, st, ru, tx, en, ws, wl, cn) (nI i) :=
  ⟨s + 1, lx_eow5 hT hs hR hA hi hD s (Nat.le_refl _) hp⟩
end
section
variable {g0 g1 g2 g3 g4 : Int32} {c l le ri st ru tx rw ft : Nat → Int32}
theorem lx_ls2 {post : Int32 → Prop} {M : Nat → Nat → Nat → Prop} {A : Nat → Nat} {T s R i j : Nat} (hT : T ≤ 40) (hs : s ≤ 30) (hR : R ≤ 5) (hA : ∀ r, r < R → ru r = nI (A r) ∧ A r < T) (hi : i ≤ s) (hj : j ≤ s)
    (hV : ∀ t i j, t < T → i ≤ s → j ≤ s → lx_V M ft t i j) : ∀ d r, r + d = R → post (lx_lr (fun r => M (A r) i j) d r) → wY_least_2 post (nI i) (nI j) g0 g1 (nI R) g3 g4 c l le ri st ru tx rw ft 38440 (d + 1) (nI r) := by
  intro d
  induction d with
  | zero =>
    intro r hr hp
    exact br_t (nI_le (by omega) (by omega)) hp
  | succ d ih =>
    intro r hr hp
    refine br_f (nI_ge (by omega) (by omega)) ⟨vp_in_nI (by omega) (by omega), ?_⟩
    have hr2 := hA r (by omega)
    rw [nI_clamp (show r < 2 ^ 31 by omega), hr2.1]
    refine lx_is (M := M) (by omega) (by omega) (by omega) (hV _ _ _ hr2.2 hi hj) (fun m => ?_) (fun m => ?_)
    · rw [lx_lr_t (B := fun r => M (A r) i j) m] at hp
      exact br_f (by decide) hp
    · rw [lx_lr_f (B := fun r => M (A r) i j) m] at hp
      exact br_t rfl (nm_r (nI_1 r) (ih (r + 1) (by omega) hp))
theorem lx_least {post : Int32 → Prop} {M : Nat → Nat → Nat → Prop} {A : Nat → Nat} {T s R i j : Nat} (hT : T ≤ 40) (hs : s ≤ 30) (hR : R ≤ 5) (hA : ∀ r, r < R → ru r = nI (A r) ∧ A r < T) (hi : i ≤ s) (hj : j ≤ s)
    (hV : ∀ t i j, t < T → i ≤ s → j ≤ s → lx_V M ft t i j) (hp : post (lx_lr (fun r => M (A r) i j) R 0)) : wpY_least post (g0, g1, nI R, g3, g4, c, l, le, ri, st, ru, tx, rw, ft, 38440) (nI i) (nI j) :=
  ⟨R + 1, lx_ls2 hT hs hR hA hi hj hV R 0 (by omega) hp⟩
theorem lx_end5 {post : Int32 → Prop} {M : Nat → Nat → Nat → Prop} {A : Nat → Nat} {T s R i : Nat} (hT : T ≤ 40) (hs : s ≤ 30) (hR : R ≤ 5) (hA : ∀ r, r < R → ru r = nI (A r) ∧ A r < T) (hi : i ≤ s)
    (hV : ∀ t i j, t < T → i ≤ s → j ≤ s → lx_V M ft t i j) : ∀ m, m ≤ s → post (nI (lx_ew (fun j => lx_lr (fun r => M (A r) i j) R 0) i m)) → wY_end_5 post (nI i) g0 g1 (nI R) g3 g4 c l le ri st ru tx rw ft 38440 (m + 1) (nI m) := by
  intro m
  induction m with
  | zero =>
    intro hm hp
    rw [lx_ew, ← nI_1] at hp
    exact br_t (nI_le (by omega) (by omega)) hp
  | succ m ih =>
    intro hm hp
    rw [lx_ew] at hp
    by_cases h : m + 1 ≤ i
    · rw [if_pos h, ← nI_1] at hp
      exact br_t (nI_le h (by omega)) hp
    · rw [if_neg h] at hp
      refine br_f (nI_ge (by omega) (by omega)) (lx_least hT hs hR hA hi hm hV ?_)
      by_cases h2 : lx_lr (fun r => M (A r) i (m + 1)) R 0 < 0
      · rw [if_pos h2] at hp
        exact br_t h2 (nm_r (pk_m1 m) (ih (by omega) hp))
      · rw [if_neg h2] at hp
        exact br_f h2 hp
theorem lx_end {post : Int32 → Prop} {M : Nat → Nat → Nat → Prop} {A : Nat → Nat} {T s R i : Nat} (hT : T ≤ 40) (hs : s ≤ 30) (hR : R ≤ 5) (hA : ∀ r, r < R → ru r = nI (A r) ∧ A r < T) (hi : i ≤ s)
    (hV : ∀ t i j, t < T → i ≤ s → j ≤ s → lx_V M ft t i j) (hp : post (nI (lx_ew (fun j => lx_lr (fun r => M (A r) i j) R 0) i s))) : wpY_end post (g0, g1, nI R, nI s, g4, c, l, le, ri, st, ru, tx, rw, ft, 38440) (nI i) :=
  ⟨s + 1, lx_end5 hT hs hR hA hi hV s (Nat.le_refl _) hp⟩
end
end
section
/-- where the word that begins at i ends -/
noncomputable def lx_E (M : Nat → Nat → Nat → Prop) (A : Nat → Nat) (R s i : Nat) : Nat := lx_ew (fun j => lx_lr (fun r => M (A r) i j) R 0) i s
theorem lx_E_b (M : Nat → Nat → Nat → Prop) (A : Nat → Nat) (R : Nat) {s i : Nat} (h : i < s) : i < lx_E M A R s i ∧ lx_E M A R s i ≤ s := by
  have h1 := lx_ew_b (fun j => lx_lr (fun r => M (A r) i j) R 0) i s
  unfold lx_E
  omega
/-- what word v is -/
def lx_Wd (M : Nat → Nat → Nat → Prop) (A : Nat → Nat) (R s : Nat) (ws wl : Nat → Int32) (v : Nat) : Prop :=
  wl v = nI (lx_b (lx_E M A R s) (v + 1)) - nI (lx_b (lx_E M A R s) v) ∧ ws v = lx_lr (fun r => M (A r) (lx_b (lx_E M A R s) v) (lx_b (lx_E M A R s) (v + 1))) R 0
section
variable {f0 f1 f2 f3 f4 : Int32} {c l fi se st ru tx en ws wl cn : Nat → Int32}
theorem lx_cut21 {post : SX → Prop} {M : Nat → Nat → Nat → Prop} {A : Nat → Nat} {T s R : Nat} (hT : T ≤ 40) (hs : s ≤ 30) (hR : R ≤ 5) (hA : ∀ r, r < R → ru r = nI (A r) ∧ A r < T)
    (hD : lx_DX M en s T (s + 1))
    (hp : ∀ w ws' wl', w ≤ 30 → lx_b (lx_E M A R s) w = s → (∀ v, v < w → lx_b (lx_E M A R s) v < s ∧ lx_Wd M A R s ws' wl' v) → post (f0, f1, nI R, nI s, nI w, c, l, fi, se, st, ru, tx, en, ws', wl', cn)) :
    ∀ d m w ws wl, m + d = s → w ≤ m → m ≤ lx_b (lx_E M A R s) w → lx_b (lx_E M A R s) w ≤ s → (∀ v, v < w → lx_b (lx_E M A R s) v < m ∧ lx_Wd M A R s ws wl v) →
      wX_cut_21 post f0 f1 (nI R) (nI s) (d + 1) (nI (lx_b (lx_E M A R s) w)) (nI m) (nI w) c l fi se st ru tx en ws wl cn := by
  intro d
  induction d with
  | zero =>
    intro m w ws wl hd hwm hm hb hv
    refine br_t (nI_le (by omega) (by omega)) (hp w ws wl (by omega) (by omega) fun v z => ⟨?_, (hv v z).2⟩)
    have := (hv v z).1
    omega
  | succ d ih =>
    intro m w ws wl hd hwm hm hb hv
    refine br_f (nI_ge (by omega) (by omega)) ?_
    by_cases h : m = lx_b (lx_E M A R s) w
    · refine br_t (congrArg nI h) ?_
      have hE := lx_E_b M A R (s := s) (i := m) (by omega)
      refine lx_eow (M := M) (A := A) hT hs hR hA (by omega) hD ?_
      rw [nI_clamp (show w < 2 ^ 31 by omega)]
      refine ⟨vp_in_nI (by omega) (by omega), nm_e ?_⟩
      refine lx_leastRule (M := M) (A := A) (j := lx_E M A R s m) hT hs hR hA (by omega) hE.2 hD ?_
      refine ⟨vp_in_nI (by omega) (by omega), nm_e (nm_r (nI_1 w) (nm_r (nI_1 m) ?_))⟩
      subst h
      refine ih (lx_b (lx_E M A R s) w + 1) (w + 1) _ _ (by omega) (by omega) hE.1 hE.2 fun v z => ?_
      by_cases hvw : v = w
      · subst hvw
        exact ⟨by omega, pk_us, pk_us⟩
      · have hq := hv v (by omega)
        refine ⟨by omega, ?_⟩
        unfold lx_Wd
        rw [pk_un hvw, pk_un hvw]
        exact hq.2
    · refine br_f (fun z => h ((nI_eq (by omega) (by omega)).mp z)) (nm_r (nI_1 m) ?_)
      refine ih (m + 1) w ws wl (by omega) (by omega) (by omega) hb fun v z => ⟨?_, (hv v z).2⟩
      have := (hv v z).1
      omega
theorem lx_cut {post : SX → Prop} {C P Q : Nat → Nat} {e : Nat → Nat → Prop} {A : Nat → Nat} {T s R : Nat} (hT : T ≤ 40) (hs : s ≤ 30) (hR : R ≤ 5) (hA : ∀ r, r < R → ru r = nI (A r) ∧ A r < T)
    (N : ∀ t, t < T → lx_NX c fi se C P Q t) (he : ∀ t i, i < s → (tx i = l t ↔ e t i))
    (hp : ∀ en' w ws' wl', w ≤ 30 → lx_b (lx_E (lx_M C P Q e s) A R s) w = s → (∀ v, v < w → lx_b (lx_E (lx_M C P Q e s) A R s) v < s ∧ lx_Wd (lx_M C P Q e s) A R s ws' wl' v) → post (nI T, f1, nI R, nI s, nI w, c, l, fi, se, st, ru, tx, en', ws', wl', cn)) :
    wpX_cut post (nI T, f1, nI R, nI s, f4, c, l, fi, se, st, ru, tx, en, ws, wl, cn) := by
  refine lx_fe_text hT hs hs N he fun en' hD => ⟨s + 1, ?_⟩
  exact lx_cut21 (M := lx_M C P Q e s) (A := A) hT hs hR hA hD (fun w ws' wl' => hp en' w ws' wl') s 0 0 ws wl (by omega) (by omega) (Nat.zero_le _) (Nat.zero_le _) (fun v z => absurd z (Nat.not_lt_zero _))
end
section
variable {g0 g1 g2 g3 g4 : Int32} {c l le ri st ru tx rw ft : Nat → Int32}
theorem lx_words8 {post : Int32 → SY → Prop} {M : Nat → Nat → Nat → Prop} {A : Nat → Nat} {T s R W : Nat} (hT : T ≤ 40) (hs : s ≤ 30) (hR : R ≤ 5) (hA : ∀ r, r < R → ru r = nI (A r) ∧ A r < T)
    (hV : ∀ t i j, t < T → i ≤ s → j ≤ s → lx_V M ft t i j) (hW : W ≤ 30) (hWs : lx_b (lx_E M A R s) W = s) (hb : ∀ v, v < W → lx_b (lx_E M A R s) v < s)
    (hp : post (nI W) (g0, g1, nI R, nI s, g4, c, l, le, ri, st, ru, tx, rw, ft, 38440)) :
    ∀ d w, w + d = W → wY_words_8 post g0 g1 (nI R) (nI s) g4 c l le ri st ru tx rw ft 38440 (d + 1) (nI w) (nI (lx_b (lx_E M A R s) w)) := by
  intro d
  induction d with
  | zero =>
    intro w hd
    have hw : w = W := by omega
    subst hw
    exact br_t (nI_le (by omega) (by omega)) hp
  | succ d ih =>
    intro w hd
    have h1 := hb w (by omega)
    refine br_f (nI_ge (by omega) (by omega)) (br_f (nI_ge (b := 30) (by omega) (by omega)) ?_)
    refine lx_end (M := M) (A := A) hT hs hR hA (by omega) hV ?_
    exact nm_r (nI_1 w) (ih (w + 1) (by omega))
theorem lx_begin14 {post : Int32 → SY → Prop} {M : Nat → Nat → Nat → Prop} {A : Nat → Nat} {T s R W m : Nat} (hT : T ≤ 40) (hs : s ≤ 30) (hR : R ≤ 5) (hA : ∀ r, r < R → ru r = nI (A r) ∧ A r < T)
    (hV : ∀ t i j, t < T → i ≤ s → j ≤ s → lx_V M ft t i j) (hW : W ≤ 30) (hWs : lx_b (lx_E M A R s) W = s) (hb : ∀ v, v < W → lx_b (lx_E M A R s) v < s) (hm : m < 2 ^ 31)
    (h1 : m < W → post (nI (lx_b (lx_E M A R s) m)) (g0, g1, nI R, nI s, g4, c, l, le, ri, st, ru, tx, rw, ft, 38440)) (h0 : W ≤ m → post (-1) (g0, g1, nI R, nI s, g4, c, l, le, ri, st, ru, tx, rw, ft, 38440)) :
    ∀ d w, w + d = W → w ≤ m → wY_begin_14 post (nI m) g0 g1 (nI R) (nI s) g4 c l le ri st ru tx rw ft 38440 (d + 1) (nI (lx_b (lx_E M A R s) w)) (nI w) := by
  intro d
  induction d with
  | zero =>
    intro w hd hwm
    have hw : w = W := by omega
    subst hw
    by_cases h : m ≤ w
    · exact br_t (nI_le h (by omega)) (br_t (nI_le (by omega) (by omega)) (h0 hwm))
    · exact br_f (nI_ge (by omega) (by omega)) (br_t (nI_le (by omega) (by omega)) (br_t (nI_le (by omega) (by omega)) (h0 hwm)))
  | succ d ih =>
    intro w hd hwm
    have hbw := hb w (by omega)
    by_cases h : m ≤ w
    · have hw : w = m := by omega
      subst hw
      exact br_t (nI_le h (by omega)) (br_f (nI_ge (by omega) (by omega)) (h1 (by omega)))
    · refine br_f (nI_ge (by omega) (by omega)) (br_f (nI_ge (by omega) (by omega)) ?_)
      refine lx_end (M := M) (A := A) hT hs hR hA (by omega) hV ?_
      exact nm_r (nI_1 w) (ih (w + 1) (by omega) (by omega))
theorem lx_words {post : Int32 → SY → Prop} {C P Q : Nat → Nat} {e : Nat → Nat → Prop} {A : Nat → Nat} {T s R W : Nat} (hT : T ≤ 40) (hs : s ≤ 30) (hR : R ≤ 5) (hA : ∀ r, r < R → ru r = nI (A r) ∧ A r < T)
    (N : ∀ t, t < T → lx_NY c le ri C P Q t) (he : ∀ t i, i < s → (tx i = l t ↔ e t i))
    (hW : W ≤ 30) (hWs : lx_b (lx_E (lx_M C P Q e s) A R s) W = s) (hb : ∀ v, v < W → lx_b (lx_E (lx_M C P Q e s) A R s) v < s)
    (hp : ∀ rw' ft', post (nI W) (nI T, g1, nI R, nI s, nI s, c, l, le, ri, st, ru, tx, rw', ft', 38440)) :
    wpY_words post (nI T, g1, nI R, nI s, g4, c, l, le, ri, st, ru, tx, rw, ft, 38440) := by
  refine lx_wt (g4 := g4) hT hs N he fun rw' ft' hV => ⟨W + 1, ?_⟩
  exact lx_words8 (M := lx_M C P Q e s) (A := A) hT hs hR hA hV hW hWs hb (hp rw' ft') W 0 (by omega)
theorem lx_begin {post : Int32 → SY → Prop} {C P Q : Nat → Nat} {e : Nat → Nat → Prop} {A : Nat → Nat} {T s R W : Nat} {x : Int32} (hT : T ≤ 40) (hs : s ≤ 30) (hR : R ≤ 5) (hA : ∀ r, r < R → ru r = nI (A r) ∧ A r < T)
    (N : ∀ t, t < T → lx_NY c le ri C P Q t) (he : ∀ t i, i < s → (tx i = l t ↔ e t i))
    (hW : W ≤ 30) (hWs : lx_b (lx_E (lx_M C P Q e s) A R s) W = s) (hb : ∀ v, v < W → lx_b (lx_E (lx_M C P Q e s) A R s) v < s)
    (h1 : ∀ rw' ft' m, (∀ t i j, t < T → i ≤ s → j ≤ s → lx_V (lx_M C P Q e s) ft' t i j) → m < W → x = nI m → post (nI (lx_b (lx_E (lx_M C P Q e s) A R s) m)) (nI T, g1, nI R, nI s, nI s, c, l, le, ri, st, ru, tx, rw', ft', 38440))
    (h0 : ∀ rw' ft', (x < 0 ∨ nI W ≤ x) → post (-1) (nI T, g1, nI R, nI s, nI s, c, l, le, ri, st, ru, tx, rw', ft', 38440)) :
    wpY_begin post (nI T, g1, nI R, nI s, g4, c, l, le, ri, st, ru, tx, rw, ft, 38440) x := by
  refine lx_wt (g4 := g4) hT hs N he fun rw' ft' hV => ?_
  by_cases h : x < 0
  · exact br_f (fun z => Int32.not_lt.mpr z h) (h0 rw' ft' (Or.inl h))
  · refine br_t (Int32.not_lt.mp h) ?_
    obtain ⟨m, hm, rfl⟩ := nI_of h
    exact ⟨W + 1, lx_begin14 (M := lx_M C P Q e s) (A := A) hT hs hR hA hV hW hWs hb hm (fun z => h1 rw' ft' m hV z rfl) (fun z => h0 rw' ft' (Or.inr (nI_le z hm))) W 0 (by omega) (by omega)⟩
end
end
section
/-- the letter at place i of the candidate w -/
def lx_dg (w i : Nat) : Int32 := nI (w / 2 ^ (2 * i) % 2 ^ 2)
theorem lx_dx {w i : Nat} (hw : w < 2 ^ 31) (hi : i < 4) : (((nI w).toUInt32 >>> ((2 * nI i).toUInt32 &&& Int32.toUInt32 31)).toInt32) &&& 3 = lx_dg w i := by
  have h2 : w / 2 ^ (2 * i) ≤ w := Nat.div_le_self _ _
  rw [show (2 : Int32) * nI i = nI (2 * i) from pk_mul 2 i, pk_ushrN (by omega) (nI (2 * i)) (2 * i) (s_u (2 * i) (by omega)), pk_andN (by omega) 2 (by decide)]
  rfl
theorem lx_dy {w i : Nat} (hw : w < 2 ^ 31) (hi : i < 4) : (nI w >>> ((2 * nI i) &&& 31)) &&& 3 = lx_dg w i := by
  have h2 : w / 2 ^ (2 * i) ≤ w := Nat.div_le_self _ _
  rw [show (2 : Int32) * nI i = nI (2 * i) from pk_mul 2 i, pk_shrN hw (nI (2 * i) &&& 31) (2 * i) (s_l (2 * i) (by omega)), pk_andN (by omega) 2 (by decide)]
  rfl
theorem lx_all {n : Nat} (hn : n ≤ 4) : (1 : Int32) <<< ((2 * nI n) &&& 31) = nI (2 ^ (2 * n)) ∧ 2 ^ (2 * n) ≤ 256 := by
  have h : n = 0 ∨ n = 1 ∨ n = 2 ∨ n = 3 ∨ n = 4 := by omega
  rcases h with h | h | h | h | h <;> subst h <;> decide
section
variable {f0 f1 f2 f3 f4 : Int32} {c l fi se st ru tx en ws wl cn : Nat → Int32}
theorem lx_spell2 {post : SX → Prop} {w n : Nat} (hw : w < 2 ^ 31) (hn : n ≤ 4) (hp : ∀ cn', (∀ i, i < n → cn' i = lx_dg w i) → post (f0, f1, f2, f3, f4, c, l, fi, se, st, ru, tx, en, ws, wl, cn')) :
    ∀ d i cn, i + d = n → (∀ i', i' < i → cn i' = lx_dg w i') → wX_spell_2 post (nI w) (nI n) f0 f1 f2 f3 f4 (d + 1) (nI i) c l fi se st ru tx en ws wl cn := by
  intro d
  induction d with
  | zero =>
    intro i cn hd hc
    have hi : i = n := by omega
    subst hi
    exact br_t (nI_le (by omega) (by omega)) (hp cn hc)
  | succ d ih =>
    intro i cn hd hc
    refine br_f (nI_ge (by omega) (by omega)) ?_
    rw [nI_clamp (show i < 2 ^ 31 by omega), lx_dx hw (by omega)]
    refine ⟨vp_in_nI (by omega) (by omega), nm_e (nm_r (nI_1 i) (ih (i + 1) _ (by omega) fun i' h => ?_))⟩
    by_cases hk : i' = i
    · subst hk; exact pk_us
    · rw [pk_un hk]; exact hc i' (by omega)
theorem lx_spell {post : SX → Prop} {w n : Nat} (hw : w < 2 ^ 31) (hn : n ≤ 4) (hp : ∀ cn', (∀ i, i < n → cn' i = lx_dg w i) → post (f0, f1, f2, f3, f4, c, l, fi, se, st, ru, tx, en, ws, wl, cn')) :
    wpX_spell post (f0, f1, f2, f3, f4, c, l, fi, se, st, ru, tx, en, ws, wl, cn) (nI w) (nI n) :=
  ⟨n + 1, lx_spell2 hw hn hp n 0 cn (by omega) (fun i' h => absurd h (Nat.not_lt_zero _))⟩
theorem lx_ct31 {post : Int32 → SX → Prop} {C P Q : Nat → Nat} {A : Nat → Nat} {T R r n K : Nat} (hT : T ≤ 40) (hR : R ≤ 5) (hA : ∀ r, r < R → ru r = nI (A r) ∧ A r < T) (hr : r < R) (hn : n ≤ 4) (hK : K ≤ 256)
    (N : ∀ t, t < T → lx_NX c fi se C P Q t)
    (hp : ∀ en' cn', post (nI (lx_cn (fun w => lx_M C P Q (fun t i => lx_dg w i = l t) n (A r) 0 n) K)) (nI T, f1, nI R, f3, f4, c, l, fi, se, st, ru, tx, en', ws, wl, cn')) :
    ∀ d w en cn, w + d = K → wX_count_31 post (nI r) (nI n) (nI K) (d + 1) (nI (lx_cn (fun w => lx_M C P Q (fun t i => lx_dg w i = l t) n (A r) 0 n) w)) (nI w) (nI T) f1 (nI R) f3 f4 c l fi se st ru tx en ws wl cn := by
  intro d
  induction d with
  | zero =>
    intro w en cn hd
    have hw : w = K := by omega
    subst hw
    exact br_t (nI_le (by omega) (by omega)) (hp en cn)
  | succ d ih =>
    intro w en cn hd
    refine br_f (nI_ge (by omega) (by omega)) ?_
    refine lx_spell (by omega) hn fun cn' hc => ?_
    refine lx_fe_counted (e := fun t i => lx_dg w i = l t) hT (by omega) hn N (fun t i h => by rw [hc i h]) fun en' hD => ?_
    refine lx_isRow (i := 0) hT (by omega) (by omega) (hA r hr).1 (hA r hr).2 (by omega) (Nat.le_refl _) hD (fun m => ?_) (fun m => ?_)
    · refine br_f (by decide) (nm_r (e' := nI (lx_cn (fun w => lx_M C P Q (fun t i => lx_dg w i = l t) n (A r) 0 n) (w + 1))) ?_ (nm_r (nI_1 w) (ih (w + 1) en' cn' (by omega))))
      rw [lx_cn_t (B := fun w => lx_M C P Q (fun t i => lx_dg w i = l t) n (A r) 0 n) m, nI_1]
    · have h2 := ih (w + 1) en' cn' (by omega)
      rw [lx_cn_f (B := fun w => lx_M C P Q (fun t i => lx_dg w i = l t) n (A r) 0 n) m] at h2
      exact br_t rfl (nm_r (nI_1 w) h2)
end
section
variable {g0 g1 g2 g3 g4 : Int32} {c l le ri st ru tx rw ft : Nat → Int32}
theorem lx_ct50 {post : Int32 → SY → Prop} {J : Int32 → Int32 → Int32 → Int32 → Int32 → Int32 → Int32 → (Nat → Int32) → (Nat → Int32) → (Nat → Int32) → (Nat → Int32) → (Nat → Int32) → (Nat → Int32) → (Nat → Int32) → (Nat → Int32) → (Nat → Int32) → Nat → Prop}
    {C P Q : Nat → Nat} {A : Nat → Nat} {T R r n w : Nat} {x4 : Int32} (hT : T ≤ 40) (hR : R ≤ 5) (hA : ∀ r, r < R → ru r = nI (A r) ∧ A r < T) (hr : r < R) (hn : n ≤ 4) (hw : w < 2 ^ 31)
    (N : ∀ t, t < T → lx_NY c le ri C P Q t)
    (hJ : ∀ rw' ft', J (nI (lx_cn (fun w => lx_M C P Q (fun t i => lx_dg w i = l t) n (A r) 0 n) (w + 1))) (nI (w + 1)) (nI T) g1 (nI R) g3 (nI n) c l le ri st ru tx rw' ft' 38440) :
    ∀ d i rw, i + d = n → (∀ i', i' < i → rw i' = lx_dg w i') → wY_count_50 post J (nI r) (nI n) (nI (lx_cn (fun w => lx_M C P Q (fun t i => lx_dg w i = l t) n (A r) 0 n) w)) x4 (nI w) (nI T) g1 (nI R) g3 (nI n) 38440 (d + 1) (nI i) c l le ri st ru tx rw ft := by
  intro d
  induction d with
  | zero =>
    intro i rw hd hc
    have hi : i = n := by omega
    subst hi
    refine br_t (nI_le (by omega) (by omega)) ?_
    refine lx_work (e := fun t i => lx_dg w i = l t) hT (by omega) N (fun t i h => by rw [hc i h]) fun ft' hV => ?_
    refine ⟨vp_in_nI (by omega) (by omega), ?_⟩
    have hr2 := hA r hr
    rw [nI_clamp (show r < 2 ^ 31 by omega), hr2.1]
    refine lx_is (i := 0) (by omega) (by omega) (by omega) (hV _ _ _ hr2.2 (by omega) (Nat.le_refl _)) (fun m => ?_) (fun m => ?_)
    · have h2 := hJ rw ft'
      rw [lx_cn_t (B := fun w => lx_M C P Q (fun t i => lx_dg w i = l t) i (A r) 0 i) m] at h2
      exact br_f (by decide) (nm_r (nI_1 _) (nm_r (nI_1 w) h2))
    · have h2 := hJ rw ft'
      rw [lx_cn_f (B := fun w => lx_M C P Q (fun t i => lx_dg w i = l t) i (A r) 0 i) m] at h2
      exact br_t rfl (nm_r (nI_1 w) h2)
  | succ d ih =>
    intro i rw hd hc
    refine br_f (nI_ge (by omega) (by omega)) ?_
    rw [nI_clamp (show i < 2 ^ 31 by omega), lx_dy hw (by omega)]
    refine ⟨vp_in_nI (by omega) (by omega), nm_e (nm_r (nI_1 i) (ih (i + 1) _ (by omega) fun i' h => ?_))⟩
    by_cases hk : i' = i
    · subst hk; exact pk_us
    · rw [pk_un hk]; exact hc i' (by omega)
theorem lx_ct40 {post : Int32 → SY → Prop} {C P Q : Nat → Nat} {A : Nat → Nat} {T R r n K : Nat} (hT : T ≤ 40) (hR : R ≤ 5) (hA : ∀ r, r < R → ru r = nI (A r) ∧ A r < T) (hr : r < R) (hn : n ≤ 4) (hK : K ≤ 256)
    (N : ∀ t, t < T → lx_NY c le ri C P Q t)
    (hp : ∀ rw' ft', post (nI (lx_cn (fun w => lx_M C P Q (fun t i => lx_dg w i = l t) n (A r) 0 n) K)) (nI T, g1, nI R, g3, nI n, c, l, le, ri, st, ru, tx, rw', ft', 38440)) :
    ∀ d w rw ft, w + d = K → wY_count_40 post (nI r) (nI n) (nI K) (d + 1) (nI (lx_cn (fun w => lx_M C P Q (fun t i => lx_dg w i = l t) n (A r) 0 n) w)) (nI w) (nI T) g1 (nI R) g3 (nI n) c l le ri st ru tx rw ft 38440 := by
  intro d
  induction d with
  | zero =>
    intro w rw ft hd
    have hw : w = K := by omega
    subst hw
    exact br_t (nI_le (by omega) (by omega)) (hp rw ft)
  | succ d ih =>
    intro w rw ft hd
    refine br_f (nI_ge (by omega) (by omega)) ⟨n + 1, ?_⟩
    exact lx_ct50 hT hR hA hr hn (by omega) N (fun rw' ft' => ih (w + 1) rw' ft' (by omega)) n 0 rw (by omega) (fun i' h => absurd h (Nat.not_lt_zero _))
end
end
section
/-- how many parts a token takes -/
def lx_pt (k : Nat) : Nat := if k ≤ 2 then 0 else if k ≤ 4 then 2 else 1
theorem lx_pt_c {k : Nat} (hk : k < 8) : (k ≤ 2 ∧ lx_pt k = 0) ∨ ((k = 3 ∨ k = 4) ∧ lx_pt k = 2) ∨ ((k = 5 ∨ k = 6 ∨ k = 7) ∧ lx_pt k = 1) := by
  unfold lx_pt
  split
  · omega
  · split
    · omega
    · omega
theorem lx_partsOf {post : Int32 → Prop} {k : Nat} (hk : k < 8) (hp : post (nI (lx_pt k))) : wpX_partsOf post (nI k) := by
  have h : k = 0 ∨ k = 1 ∨ k = 2 ∨ k = 3 ∨ k = 4 ∨ k = 5 ∨ k = 6 ∨ k = 7 := by omega
  rcases h with h | h | h | h | h | h | h | h <;> subst h
  · exact br_t (by decide) hp
  · exact br_t (by decide) hp
  · exact br_t (by decide) hp
  · exact br_f (by decide) (br_f (by decide) (br_t (by decide) hp))
  · exact br_f (by decide) (br_f (by decide) (br_f (by decide) (br_t (by decide) hp)))
  · exact br_f (by decide) (br_f (by decide) (br_f (by decide) (br_f (by decide) (br_t (by decide) hp))))
  · exact br_f (by decide) (br_f (by decide) (br_f (by decide) (br_f (by decide) (br_f (by decide) (br_t (by decide) hp)))))
  · exact br_f (by decide) (br_f (by decide) (br_f (by decide) (br_f (by decide) (br_f (by decide) (br_f (by decide) (br_t (by decide) hp))))))
theorem lx_takes {post : Int32 → Prop} {k : Nat} (hk : k < 8) (hp : post (nI (lx_pt k))) : wpY_takes post (nI k) := by
  have h : k = 0 ∨ k = 1 ∨ k = 2 ∨ k = 3 ∨ k = 4 ∨ k = 5 ∨ k = 6 ∨ k = 7 := by omega
  rcases h with h | h | h | h | h | h | h | h <;> subst h
  · exact br_f (by decide) hp
  · exact br_f (by decide) hp
  · exact br_f (by decide) hp
  · exact br_t (by decide) (br_f (by decide) hp)
  · exact br_t (by decide) (br_f (by decide) hp)
  · exact br_t (by decide) (br_t (by decide) hp)
  · exact br_t (by decide) (br_t (by decide) hp)
  · exact br_t (by decide) (br_t (by decide) hp)
theorem lx_big {x : Int32} (h : nI 8 ≤ x) : ¬ x < 0 ∧ 7 < x := by
  rw [Int32.le_iff_toInt_le, show (nI 8).toInt = 8 by decide] at h
  rw [Int32.lt_iff_toInt_lt, Int32.lt_iff_toInt_lt, show (0 : Int32).toInt = 0 by decide, show (7 : Int32).toInt = 7 by decide]
  omega
section
variable {f0 f1 f2 f3 f4 : Int32} {c l fi se st ru tx en ws wl cn : Nat → Int32}
theorem lx_can {post : Int32 → Prop} {T H R k : Nat} (hk : k < 8) (hT : T ≤ 40) (hH : H ≤ 40) (hR : R ≤ 5) (h1 : T < 40 → (k = 7 → R < 5) → lx_pt k ≤ H → post 1) (h0 : ¬ (T < 40 ∧ (k = 7 → R < 5) ∧ lx_pt k ≤ H) → post 0) :
    wpX_canTake post (nI T, nI H, nI R, f3, f4, c, l, fi, se, st, ru, tx, en, ws, wl, cn) (nI k) := by
  have hp2 := lx_pt_c hk
  have h37 : T < 40 → (k = 7 → R < 5) → wX_canTake_37 post (nI k) (nI T) (nI H) (nI R) f3 f4 c l fi se st ru tx en ws wl cn := fun a b => lx_partsOf hk (pk_lt H (lx_pt k) (fun z => h0 (by omega)) (fun z => h1 a b z))
  refine br_f (nI_pos (by omega)) (br_f (nI_nlt (a := 7) (b := k) (by omega) (by omega)) ?_)
  exact pk_lt T 40 (fun a => pk_eq k 7 (fun b => pk_lt R 5 (fun d => h37 a (fun _ => d)) (fun d => h0 (by omega))) (fun b => h37 a (fun z => absurd z b))) (fun a => h0 (by omega))
theorem lx_t93 {post : Int32 → SX → Prop} {k H T R : Nat} {z0 : Int32} (hk : k < 8) (hT : T < 40) (hH : H < 40)
    (h7 : k = 7 → R < 5 ∧ post (nI H) (nI (T + 1), nI H, nI (R + 1), f3, f4, c, l, fi, upd se T z0, st, upd ru R (fi T), tx, en, ws, wl, cn))
    (hp : k ≠ 7 → post (nI (H + 1)) (nI (T + 1), nI (H + 1), nI R, f3, f4, c, l, fi, upd se T z0, upd st H (nI T), ru, tx, en, ws, wl, cn)) :
    wX_token_93 post (nI k) (nI H) (nI T) z0 (nI T) f0 f1 (nI R) f3 f4 c l fi se st ru tx en ws wl cn := by
  unfold wX_token_93
  rw [nI_clamp (show T < 2 ^ 31 by omega), nI_clamp (show H < 2 ^ 31 by omega)]
  refine ⟨vp_in_nI hT (by omega), nm_e (nm_r (nI_1 T) (pk_eq k 7 (fun z => ?_) (fun z => ?_)))⟩
  · have h := h7 z
    refine ⟨vp_in_nI hT (by omega), vp_in_nI h.1 (by omega), ?_⟩
    exact nm_r (e' := upd ru R (fi T)) (by rw [nI_clamp (by omega)]) (nm_r (nI_1 R) h.2)
  · exact ⟨vp_in_nI hH (by omega), nm_e (nm_r (nI_1 H) (hp z))⟩
theorem lx_t68 {post : Int32 → SX → Prop} {k p H T R : Nat} {z0 : Int32} (hk : k < 8) (hT : T < 40) (hH : H < 40) (hp1 : p ≤ 2) (hp2 : 1 < p → H + 1 < 40)
    (h7 : k = 7 → R < 5 ∧ post (nI H) (nI (T + 1), nI H, nI (R + 1), f3, f4, c, l, upd fi T z0, upd se T (if p = 2 then st (H + 1) else 0), st, upd ru R z0, tx, en, ws, wl, cn))
    (hp : k ≠ 7 → post (nI (H + 1)) (nI (T + 1), nI (H + 1), nI R, f3, f4, c, l, upd fi T z0, upd se T (if p = 2 then st (H + 1) else 0), upd st H (nI T), ru, tx, en, ws, wl, cn)) :
    wX_token_68 post (nI k) (nI p) (nI H) (nI T) z0 (nI T) f0 f1 (nI R) f3 f4 c l fi se st ru tx en ws wl cn := by
  refine ⟨vp_in_nI hT (by omega), nm_r (e' := upd fi T z0) (by rw [nI_clamp (by omega)]) (pk_le p 1 (fun z => ?_) (fun z => ?_))⟩
  · rw [if_neg (show ¬ p = 2 by omega)] at h7 hp
    exact lx_t93 hk hT hH (fun y => ⟨(h7 y).1, by rw [pk_us]; exact (h7 y).2⟩) hp
  · rw [if_pos (show p = 2 by omega)] at h7 hp
    rw [nI_1, nI_clamp (show H + 1 < 2 ^ 31 by omega)]
    exact ⟨vp_in_nI (hp2 z) (by omega), lx_t93 hk hT hH (fun y => ⟨(h7 y).1, by rw [pk_us]; exact (h7 y).2⟩) hp⟩
theorem lx_tokX {post : Int32 → SX → Prop} {k T H R : Nat} {v2 : Int32} (hk : k < 8) (hT : T ≤ 40) (hH : H ≤ T) (hR : R ≤ 5)
    (h0 : ¬ (T < 40 ∧ (k = 7 → R < 5) ∧ lx_pt k ≤ H) → post (-1) (nI T, nI H, nI R, f3, f4, c, l, fi, se, st, ru, tx, en, ws, wl, cn))
    (h7 : T < 40 → R < 5 → lx_pt k ≤ H → k = 7 → post (nI (H - lx_pt k)) (nI (T + 1), nI (H - lx_pt k), nI (R + 1), f3, f4, upd c T (nI k), upd l T (v2 &&& 3), upd fi T (if lx_pt k = 0 then 0 else st (H - lx_pt k)), upd se T (if lx_pt k = 2 then st (H - lx_pt k + 1) else 0), st, upd ru R (if lx_pt k = 0 then 0 else st (H - lx_pt k)), tx, en, ws, wl, cn))
    (hp : T < 40 → lx_pt k ≤ H → k ≠ 7 → post (nI (H - lx_pt k + 1)) (nI (T + 1), nI (H - lx_pt k + 1), nI R, f3, f4, upd c T (nI k), upd l T (v2 &&& 3), upd fi T (if lx_pt k = 0 then 0 else st (H - lx_pt k)), upd se T (if lx_pt k = 2 then st (H - lx_pt k + 1) else 0), upd st (H - lx_pt k) (nI T), ru, tx, en, ws, wl, cn)) :
    wpX_token post (nI T, nI H, nI R, f3, f4, c, l, fi, se, st, ru, tx, en, ws, wl, cn) (nI k) v2 := by
  have hc := lx_pt_c hk
  unfold wpX_token
  dsimp only
  refine lx_can hk hT (by omega) hR (fun a b d => br_f (by decide) ?_) (fun a => br_t rfl (h0 a))
  refine lx_partsOf hk (nm_r (pk_sub d) ?_)
  rw [nI_clamp (show T < 2 ^ 31 by omega)]
  refine ⟨vp_in_nI a (by omega), nm_e ⟨vp_in_nI a (by omega), nm_e ?_⟩⟩
  refine pk_le (lx_pt k) 0 (fun z => ?_) (fun z => ⟨vp_in_nI (by omega) (by omega), ?_⟩)
  · rw [if_pos (show lx_pt k = 0 by omega)] at h7 hp
    exact lx_t68 hk a (by omega) (by omega) (by omega) (fun y => ⟨b y, h7 a (b y) d y⟩) (fun y => hp a d y)
  · rw [if_neg (show ¬ lx_pt k = 0 by omega)] at h7 hp
    rw [nI_clamp (show H - lx_pt k < 2 ^ 31 by omega)]
    exact lx_t68 hk a (by omega) (by omega) (by omega) (fun y => ⟨b y, h7 a (b y) d y⟩) (fun y => hp a d y)
end
section
variable {g0 g1 g2 g3 g4 : Int32} {c l le ri st ru tx rw ft : Nat → Int32}
theorem lx_t123 {post : Int32 → SY → Prop} {k H T R : Nat} (hk : k < 8) (hT : T < 40) (hH : H ≤ T) (hpt : lx_pt k ≤ H)
    (h7 : k = 7 → R < 5 ∧ post (nI (H - lx_pt k)) (nI (T + 1), nI (H - lx_pt k), nI (R + 1), g3, g4, c, l, le, ri, st, upd ru R (ri T), tx, rw, ft, 38440))
    (hp : k ≠ 7 → post (nI (H - lx_pt k + 1)) (nI (T + 1), nI (H - lx_pt k + 1), nI R, g3, g4, c, l, le, ri, upd st (H - lx_pt k) (nI T), ru, tx, rw, ft, 38440)) :
    wY_token_123 post (nI k) (nI T) (nI H) (nI R) g3 g4 c l le ri st ru tx rw ft 38440 := by
  refine lx_takes hk (nm_r (pk_sub hpt) (pk_eq k 7 (fun z => ?_) (fun z => ?_)))
  · have h := h7 z
    refine ⟨vp_in_nI hT (by omega), vp_in_nI h.1 (by omega), ?_⟩
    exact nm_r (e' := upd ru R (ri T)) (by rw [nI_clamp (by omega), nI_clamp (by omega)]) (nm_r (nI_1 R) (nm_r (nI_1 T) h.2))
  · refine ⟨vp_in_nI (by omega) (by omega), ?_⟩
    exact nm_r (e' := upd st (H - lx_pt k) (nI T)) (by rw [nI_clamp (by omega)]) (nm_r (nI_1 _) (nm_r (nI_1 T) (hp z)))
theorem lx_t95 {post : Int32 → SY → Prop} {k H T : Nat} (hk : k < 8) (hT : T < 40) (hH : H ≤ T) (hpt : lx_pt k ≤ H)
    (h : wY_token_123 post (nI k) (nI T) (nI H) g2 g3 g4 c l (if lx_pt k = 2 then upd le T (st (H - 2)) else le) ri st ru tx rw ft 38440) :
    wY_token_95 post (nI k) (nI T) (nI H) g2 g3 g4 c l le ri st ru tx rw ft 38440 := by
  have hc := lx_pt_c hk
  refine lx_takes hk (pk_eq (lx_pt k) 2 (fun z => ?_) (fun z => ?_))
  · rw [if_pos z] at h
    rw [show nI H - 2 = nI (H - 2) from pk_sub (b := 2) (by omega)]
    refine ⟨vp_in_nI (by omega) (by omega), vp_in_nI hT (by omega), ?_⟩
    exact nm_r (e' := upd le T (st (H - 2))) (by rw [nI_clamp (by omega), nI_clamp (by omega)]) h
  · rw [if_neg z] at h
    exact h
theorem lx_t46 {post : Int32 → SY → Prop} {k H T R : Nat} {v2 : Int32} (hk : k < 8) (hT : T < 40) (hH : H ≤ T) (hpt : lx_pt k ≤ H)
    (h7 : k = 7 → R < 5 ∧ post (nI (H - lx_pt k)) (nI (T + 1), nI (H - lx_pt k), nI (R + 1), g3, g4, upd c T (nI k), upd l T (v2 &&& 3), if lx_pt k = 2 then upd le T (st (H - 2)) else le, if lx_pt k = 0 then ri else upd ri T (st (H - 1)), st, upd ru R (if lx_pt k = 0 then ri T else st (H - 1)), tx, rw, ft, 38440))
    (hp : k ≠ 7 → post (nI (H - lx_pt k + 1)) (nI (T + 1), nI (H - lx_pt k + 1), nI R, g3, g4, upd c T (nI k), upd l T (v2 &&& 3), if lx_pt k = 2 then upd le T (st (H - 2)) else le, if lx_pt k = 0 then ri else upd ri T (st (H - 1)), upd st (H - lx_pt k) (nI T), ru, tx, rw, ft, 38440)) :
    wY_token_46 post (nI k) v2 (nI T) (nI H) (nI R) g3 g4 c l le ri st ru tx rw ft 38440 := by
  have hc := lx_pt_c hk
  unfold wY_token_46
  rw [nI_clamp (show T < 2 ^ 31 by omega)]
  refine ⟨vp_in_nI hT (by omega), nm_e ⟨vp_in_nI hT (by omega), nm_e ?_⟩⟩
  refine lx_takes hk (pk_le (lx_pt k) 0 (fun z => ?_) (fun z => ?_))
  · have e0 : lx_pt k = 0 := by omega
    rw [if_pos e0, if_pos e0] at h7
    rw [if_pos e0] at hp
    exact lx_t95 hk hT hH hpt (lx_t123 hk hT hH hpt h7 hp)
  · have e0 : ¬ lx_pt k = 0 := by omega
    rw [if_neg e0, if_neg e0] at h7
    rw [if_neg e0] at hp
    rw [show nI H - 1 = nI (H - 1) from pk_sub (b := 1) (by omega), nI_clamp (show H - 1 < 2 ^ 31 by omega)]
    refine ⟨vp_in_nI (by omega) (by omega), vp_in_nI hT (by omega), nm_e ?_⟩
    exact lx_t95 hk hT hH hpt (lx_t123 hk hT hH hpt (fun y => ⟨(h7 y).1, by rw [pk_us]; exact (h7 y).2⟩) hp)
theorem lx_tokY {post : Int32 → SY → Prop} {k T H R : Nat} {v2 : Int32} (hk : k < 8) (hT : T ≤ 40) (hH : H ≤ T) (hR : R ≤ 5)
    (h0 : ¬ (T < 40 ∧ (k = 7 → R < 5) ∧ lx_pt k ≤ H) → post (-1) (nI T, nI H, nI R, g3, g4, c, l, le, ri, st, ru, tx, rw, ft, 38440))
    (h1 : T < 40 → (k = 7 → R < 5) → lx_pt k ≤ H → wY_token_46 post (nI k) v2 (nI T) (nI H) (nI R) g3 g4 c l le ri st ru tx rw ft 38440) :
    wpY_token post (nI T, nI H, nI R, g3, g4, c, l, le, ri, st, ru, tx, rw, ft, 38440) (nI k) v2 := by
  have hc := lx_pt_c hk
  refine br_f (nI_pos (by omega)) (br_f (nI_nlt (a := 7) (b := k) (by omega) (by omega)) (lx_takes hk ?_))
  exact pk_lt H (lx_pt k) (fun z => h0 (by omega)) (fun z => pk_eq T 40 (fun a => h0 (by omega)) (fun a => pk_eq k 7 (fun b => pk_eq R 5 (fun d => h0 (by omega)) (fun d => h1 (by omega) (fun _ => by omega) z)) (fun b => h1 (by omega) (fun y => absurd y b) z)))
end
end
section
/-- the two sides' node t: code k, parts p and q -/
def lx_Nd (c fi se le ri : Nat → Int32) (t : Nat) : Prop :=
  ∃ k p q : Nat, c t = nI k ∧ k < 8 ∧ fi t = nI p ∧ p < 40 ∧ (k = 3 ∨ k = 4 → p < t ∧ q < t ∧ se t = nI q ∧ le t = nI p ∧ ri t = nI q) ∧ (k = 5 ∨ k = 6 → p < t ∧ ri t = nI p)
def lx_OK (T H R L : Nat) (c fi se le ri st ru : Nat → Int32) : Prop :=
  T ≤ 40 ∧ H ≤ T ∧ R ≤ 5 ∧ L ≤ 30 ∧ (∀ t, t < T → lx_Nd c fi se le ri t) ∧ (∀ h, h < H → ∃ a, a < T ∧ st h = nI a) ∧ (∀ r, r < R → ∃ a, a < T ∧ ru r = nI a)
def lx_cl (f : Nat → Int32) (t : Nat) : Nat := (f t).toNatClampNeg
theorem lx_cl_e {f : Nat → Int32} {t a : Nat} (h : f t = nI a) (ha : a < 2 ^ 31) : lx_cl f t = a := by
  unfold lx_cl; rw [h, nI_clamp ha]
theorem lx_nd {c fi se le ri : Nat → Int32} {t : Nat} (ht : t < 40) (h : lx_Nd c fi se le ri t) : lx_NX c fi se (lx_cl c) (lx_cl fi) (lx_cl se) t ∧ lx_NY c le ri (lx_cl c) (lx_cl fi) (lx_cl se) t := by
  obtain ⟨k, p, q, hc, hk, hf, hp, h34, h56⟩ := h
  have e1 := lx_cl_e hc (by omega)
  have e2 := lx_cl_e hf (by omega)
  unfold lx_NX lx_NY
  rw [e1, e2]
  refine ⟨⟨hc, hk, hf, hp, fun z => ?_, fun z => (h56 z).1⟩, hc, hk, fun z => ?_, h56⟩
  · obtain ⟨a, b, d, _⟩ := h34 z
    rw [lx_cl_e d (by omega)]
    exact ⟨a, b, d⟩
  · obtain ⟨a, b, d, f⟩ := h34 z
    rw [lx_cl_e d (by omega)]
    exact ⟨a, b, f⟩
theorem lx_ru {T R : Nat} {ru : Nat → Int32} (hT : T ≤ 40) (h : ∀ r, r < R → ∃ a, a < T ∧ ru r = nI a) : ∀ r, r < R → ru r = nI (lx_cl ru r) ∧ lx_cl ru r < T := by
  intro r hr
  obtain ⟨a, ha, e⟩ := h r hr
  rw [lx_cl_e e (by omega)]
  exact ⟨e, ha⟩
theorem lx_nd_tok {c fi se le ri st : Nat → Int32} {T H k : Nat} (hk : k < 8) (hT : T < 40) (hpt : lx_pt k ≤ H) (hN : ∀ t, t < T → lx_Nd c fi se le ri t) (hS : ∀ h, h < H → ∃ a, a < T ∧ st h = nI a) :
    ∀ t, t < T + 1 → lx_Nd (upd c T (nI k)) (upd fi T (if lx_pt k = 0 then 0 else st (H - lx_pt k))) (upd se T (if lx_pt k = 2 then st (H - lx_pt k + 1) else 0)) (if lx_pt k = 2 then upd le T (st (H - 2)) else le) (if lx_pt k = 0 then ri else upd ri T (st (H - 1))) t := by
  intro t ht
  by_cases h : t = T
  · subst h
    unfold lx_Nd
    rw [pk_us, pk_us, pk_us]
    rcases lx_pt_c hk with ⟨hc, e⟩ | ⟨hc, e⟩ | ⟨hc, e⟩
    · exact ⟨k, 0, 0, rfl, hk, if_pos e, by omega, fun z => by omega, fun z => by omega⟩
    · rw [e] at hpt ⊢
      obtain ⟨a, ha, ea⟩ := hS (H - 2) (by omega)
      obtain ⟨b, hb, eb⟩ := hS (H - 1) (by omega)
      rw [if_neg (by decide), if_pos rfl, if_pos rfl, if_neg (by decide), pk_us, pk_us, show H - 2 + 1 = H - 1 by omega]
      exact ⟨k, a, b, rfl, hk, ea, by omega, fun z => ⟨ha, hb, eb, ea, eb⟩, fun z => by omega⟩
    · rw [e] at hpt ⊢
      obtain ⟨a, ha, ea⟩ := hS (H - 1) (by omega)
      rw [if_neg (by decide), if_neg (by decide), if_neg (by decide), if_neg (by decide), pk_us]
      exact ⟨k, a, 0, rfl, hk, ea, by omega, fun z => by omega, fun z => ⟨ha, ea⟩⟩
  · have hle : (if lx_pt k = 2 then upd le T (st (H - 2)) else le) t = le t := by
      split
      · exact pk_un h
      · rfl
    have hri : (if lx_pt k = 0 then ri else upd ri T (st (H - 1))) t = ri t := by
      split
      · rfl
      · exact pk_un h
    unfold lx_Nd
    rw [pk_un h, pk_un h, pk_un h, hle, hri]
    exact hN t (by omega)
theorem lx_OK_n {c fi se le ri st ru : Nat → Int32} {T H R L k : Nat} (h : lx_OK T H R L c fi se le ri st ru) (hk : k < 8) (hT : T < 40) (hpt : lx_pt k ≤ H) :
    lx_OK (T + 1) (H - lx_pt k + 1) R L (upd c T (nI k)) (upd fi T (if lx_pt k = 0 then 0 else st (H - lx_pt k))) (upd se T (if lx_pt k = 2 then st (H - lx_pt k + 1) else 0)) (if lx_pt k = 2 then upd le T (st (H - 2)) else le) (if lx_pt k = 0 then ri else upd ri T (st (H - 1))) (upd st (H - lx_pt k) (nI T)) ru := by
  obtain ⟨h1, h2, h3, h4, hN, hS, hR⟩ := h
  refine ⟨by omega, by omega, h3, h4, lx_nd_tok hk hT hpt hN hS, fun i hi => ?_, fun r hr => ?_⟩
  · by_cases e : i = H - lx_pt k
    · subst e
      exact ⟨T, by omega, pk_us⟩
    · obtain ⟨a, ha, ea⟩ := hS i (by omega)
      exact ⟨a, by omega, by rw [pk_un e]; exact ea⟩
  · obtain ⟨a, ha, ea⟩ := hR r hr
    exact ⟨a, by omega, ea⟩
theorem lx_OK_7 {c fi se le ri st ru : Nat → Int32} {T H R L k : Nat} (h : lx_OK T H R L c fi se le ri st ru) (hk : k = 7) (hT : T < 40) (hR5 : R < 5) (hpt : lx_pt k ≤ H) :
    lx_OK (T + 1) (H - lx_pt k) (R + 1) L (upd c T (nI k)) (upd fi T (if lx_pt k = 0 then 0 else st (H - lx_pt k))) (upd se T (if lx_pt k = 2 then st (H - lx_pt k + 1) else 0)) (if lx_pt k = 2 then upd le T (st (H - 2)) else le) (if lx_pt k = 0 then ri else upd ri T (st (H - 1))) st (upd ru R (st (H - 1))) := by
  obtain ⟨h1, h2, h3, h4, hN, hS, hR⟩ := h
  have hc := lx_pt_c (k := k) (by omega)
  refine ⟨by omega, by omega, by omega, h4, lx_nd_tok (by omega) hT hpt hN hS, fun i hi => ?_, fun r hr => ?_⟩
  · obtain ⟨a, ha, ea⟩ := hS i (by omega)
    exact ⟨a, by omega, ea⟩
  · by_cases e : r = R
    · subst e
      obtain ⟨a, ha, ea⟩ := hS (H - 1) (by omega)
      exact ⟨a, by omega, by rw [pk_us]; exact ea⟩
    · obtain ⟨a, ha, ea⟩ := hR r (by omega)
      exact ⟨a, by omega, by rw [pk_un e]; exact ea⟩
end
section
theorem lx_nn {x : Int32} {n : Nat} (hn : n < 2 ^ 31) (h : nI n ≤ x) : ¬ x < 0 := by
  rw [Int32.le_iff_toInt_le, nI_toInt hn] at h
  rw [Int32.lt_iff_toInt_lt, show (0 : Int32).toInt = 0 by decide]
  omega
section
variable {g0 g1 g2 g3 g4 : Int32} {c l le ri st ru tx rw ft : Nat → Int32}
theorem lx_sortY {post : Int32 → SY → Prop} {C P Q : Nat → Nat} {e : Nat → Nat → Prop} {A : Nat → Nat} {T s R W : Nat} {x : Int32} (hT : T ≤ 40) (hs : s ≤ 30) (hR : R ≤ 5) (hA : ∀ r, r < R → ru r = nI (A r) ∧ A r < T)
    (N : ∀ t, t < T → lx_NY c le ri C P Q t) (he : ∀ t i, i < s → (tx i = l t ↔ e t i))
    (hW : W ≤ 30) (hWs : lx_b (lx_E (lx_M C P Q e s) A R s) W = s) (hb : ∀ v, v < W → lx_b (lx_E (lx_M C P Q e s) A R s) v < s)
    (h1 : ∀ rw' ft' m, m < W → x = nI m → post (lx_lr (fun r => lx_M C P Q e s (A r) (lx_b (lx_E (lx_M C P Q e s) A R s) m) (lx_b (lx_E (lx_M C P Q e s) A R s) (m + 1))) R 0) (nI T, g1, nI R, nI s, nI s, c, l, le, ri, st, ru, tx, rw', ft', 38440))
    (h0 : ∀ rw' ft', (x < 0 ∨ nI W ≤ x) → post (-2) (nI T, g1, nI R, nI s, nI s, c, l, le, ri, st, ru, tx, rw', ft', 38440)) :
    wpY_sort post (nI T, g1, nI R, nI s, g4, c, l, le, ri, st, ru, tx, rw, ft, 38440) x := by
  unfold wpY_sort
  dsimp only
  refine lx_begin (A := A) (W := W) hT hs hR hA N he hW hWs hb (fun rw' ft' m hV z hx => ?_) (fun rw' ft' z => br_f (by decide) (h0 rw' ft' z))
  have hbm := hb m z
  have hE := lx_E_b (lx_M C P Q e s) A R hbm
  refine br_t (nI_pos' (by omega)) (lx_end (M := lx_M C P Q e s) (A := A) hT hs hR hA (by omega) hV ?_)
  exact lx_least (M := lx_M C P Q e s) (A := A) (j := lx_b (lx_E (lx_M C P Q e s) A R s) (m + 1)) hT hs hR hA (by omega) hE.2 hV (h1 rw' ft' m z hx)
theorem lx_lengthY {post : Int32 → SY → Prop} {C P Q : Nat → Nat} {e : Nat → Nat → Prop} {A : Nat → Nat} {T s R W : Nat} {x : Int32} (hT : T ≤ 40) (hs : s ≤ 30) (hR : R ≤ 5) (hA : ∀ r, r < R → ru r = nI (A r) ∧ A r < T)
    (N : ∀ t, t < T → lx_NY c le ri C P Q t) (he : ∀ t i, i < s → (tx i = l t ↔ e t i))
    (hW : W ≤ 30) (hWs : lx_b (lx_E (lx_M C P Q e s) A R s) W = s) (hb : ∀ v, v < W → lx_b (lx_E (lx_M C P Q e s) A R s) v < s)
    (h1 : ∀ rw' ft' m, m < W → x = nI m → post (nI (lx_b (lx_E (lx_M C P Q e s) A R s) (m + 1)) - nI (lx_b (lx_E (lx_M C P Q e s) A R s) m)) (nI T, g1, nI R, nI s, nI s, c, l, le, ri, st, ru, tx, rw', ft', 38440))
    (h0 : ∀ rw' ft', (x < 0 ∨ nI W ≤ x) → post 0 (nI T, g1, nI R, nI s, nI s, c, l, le, ri, st, ru, tx, rw', ft', 38440)) :
    wpY_length post (nI T, g1, nI R, nI s, g4, c, l, le, ri, st, ru, tx, rw, ft, 38440) x := by
  unfold wpY_length
  dsimp only
  refine lx_begin (A := A) (W := W) hT hs hR hA N he hW hWs hb (fun rw' ft' m hV z hx => ?_) (fun rw' ft' z => br_f (by decide) (h0 rw' ft' z))
  have hbm := hb m z
  exact br_t (nI_pos' (by omega)) (lx_end (M := lx_M C P Q e s) (A := A) hT hs hR hA (by omega) hV (h1 rw' ft' m z hx))
theorem lx_matchY {post : Int32 → SY → Prop} {C P Q : Nat → Nat} {e : Nat → Nat → Prop} {A : Nat → Nat} {T s R r : Nat} (hT : T ≤ 40) (hs : s ≤ 30) (hR : R ≤ 5) (hA : ∀ r, r < R → ru r = nI (A r) ∧ A r < T) (hr : r < R)
    (N : ∀ t, t < T → lx_NY c le ri C P Q t) (he : ∀ t i, i < s → (tx i = l t ↔ e t i))
    (h1 : lx_M C P Q e s (A r) 0 s → ∀ rw' ft', post 1 (nI T, g1, nI R, nI s, nI s, c, l, le, ri, st, ru, tx, rw', ft', 38440))
    (h0 : ¬ lx_M C P Q e s (A r) 0 s → ∀ rw' ft', post 0 (nI T, g1, nI R, nI s, nI s, c, l, le, ri, st, ru, tx, rw', ft', 38440)) :
    wpY_matches post (nI T, g1, nI R, nI s, g4, c, l, le, ri, st, ru, tx, rw, ft, 38440) (nI r) := by
  refine br_f (nI_pos (by omega)) (br_t (nI_lt hr (by omega)) ?_)
  refine lx_wt (g4 := g4) hT hs N he fun rw' ft' hV => ⟨vp_in_nI (by omega) (by omega), ?_⟩
  have hr2 := hA r hr
  rw [nI_clamp (show r < 2 ^ 31 by omega), hr2.1]
  refine lx_is (i := 0) (by omega) (by omega) hs (hV _ _ _ hr2.2 (by omega) (Nat.le_refl _)) (fun m => br_f (by decide) (h1 m rw' ft')) (fun m => br_t rfl (h0 m rw' ft'))
theorem lx_countY {post : Int32 → SY → Prop} {C P Q : Nat → Nat} {A : Nat → Nat} {T R r n : Nat} (hT : T ≤ 40) (hR : R ≤ 5) (hA : ∀ r, r < R → ru r = nI (A r) ∧ A r < T) (hr : r < R) (hn : n ≤ 4)
    (N : ∀ t, t < T → lx_NY c le ri C P Q t)
    (hp : ∀ rw' ft', post (nI (lx_cn (fun w => lx_M C P Q (fun t i => lx_dg w i = l t) n (A r) 0 n) (2 ^ (2 * n)))) (nI T, g1, nI R, g3, nI n, c, l, le, ri, st, ru, tx, rw', ft', 38440)) :
    wpY_count post (nI T, g1, nI R, g3, g4, c, l, le, ri, st, ru, tx, rw, ft, 38440) (nI r) (nI n) := by
  refine br_f (nI_pos (by omega)) (br_f (nI_ge hr (by omega)) (br_f (nI_pos (by omega)) (br_t (nI_le (b := 4) hn (by omega)) ?_)))
  refine nm_r (lx_all hn).1 ⟨2 ^ (2 * n) + 1, ?_⟩
  exact lx_ct40 hT hR hA hr hn (lx_all hn).2 N hp (2 ^ (2 * n)) 0 rw ft (by omega)
theorem lx_sortOfY {post : Int32 → SY → Prop} {C P Q : Nat → Nat} {e : Nat → Nat → Prop} {A : Nat → Nat} {T s R a b : Nat} (hT : T ≤ 40) (hs : s ≤ 30) (hR : R ≤ 5) (hA : ∀ r, r < R → ru r = nI (A r) ∧ A r < T) (hab : a ≤ b) (hbs : b ≤ s)
    (N : ∀ t, t < T → lx_NY c le ri C P Q t) (he : ∀ t i, i < s → (tx i = l t ↔ e t i))
    (hp : ∀ rw' ft', post (lx_lr (fun r => lx_M C P Q e s (A r) a b) R 0) (nI T, g1, nI R, nI s, nI s, c, l, le, ri, st, ru, tx, rw', ft', 38440)) :
    wpY_sortOf post (nI T, g1, nI R, nI s, g4, c, l, le, ri, st, ru, tx, rw, ft, 38440) (nI a) (nI b) := by
  refine br_f (nI_pos (by omega)) (br_f (nI_nlt hab (by omega)) (br_t (nI_le hbs (by omega)) ?_))
  refine lx_wt (g4 := g4) hT hs N he fun rw' ft' hV => ?_
  exact lx_least (M := lx_M C P Q e s) (A := A) hT hs hR hA (by omega) hbs hV (hp rw' ft')
end
section
variable {f0 f1 f2 f3 f4 : Int32} {c l fi se st ru tx en ws wl cn : Nat → Int32}
theorem lx_sortX {post : Int32 → SX → Prop} {C P Q : Nat → Nat} {e : Nat → Nat → Prop} {A : Nat → Nat} {T s R : Nat} {x : Int32} (hT : T ≤ 40) (hs : s ≤ 30) (hR : R ≤ 5) (hA : ∀ r, r < R → ru r = nI (A r) ∧ A r < T)
    (N : ∀ t, t < T → lx_NX c fi se C P Q t) (he : ∀ t i, i < s → (tx i = l t ↔ e t i))
    (h1 : ∀ en' w ws' wl' m, w ≤ 30 → lx_b (lx_E (lx_M C P Q e s) A R s) w = s → (∀ v, v < w → lx_b (lx_E (lx_M C P Q e s) A R s) v < s) → m < w → x = nI m → post (lx_lr (fun r => lx_M C P Q e s (A r) (lx_b (lx_E (lx_M C P Q e s) A R s) m) (lx_b (lx_E (lx_M C P Q e s) A R s) (m + 1))) R 0) (nI T, f1, nI R, nI s, nI w, c, l, fi, se, st, ru, tx, en', ws', wl', cn))
    (h0 : ∀ en' w ws' wl', w ≤ 30 → lx_b (lx_E (lx_M C P Q e s) A R s) w = s → (∀ v, v < w → lx_b (lx_E (lx_M C P Q e s) A R s) v < s) → (x < 0 ∨ nI w ≤ x) → post (-2) (nI T, f1, nI R, nI s, nI w, c, l, fi, se, st, ru, tx, en', ws', wl', cn)) :
    wpX_sort post (nI T, f1, nI R, nI s, f4, c, l, fi, se, st, ru, tx, en, ws, wl, cn) x := by
  unfold wpX_sort
  dsimp only
  refine lx_cut (A := A) hT hs hR hA N he fun en' w ws' wl' hw hws hv => ?_
  have hb : ∀ v, v < w → lx_b (lx_E (lx_M C P Q e s) A R s) v < s := fun v z => (hv v z).1
  rcases pk_ix x (n := w) (by omega) with h | h | ⟨m, hm, rfl⟩
  · exact br_t h (br_t rfl (h0 en' w ws' wl' hw hws hb (Or.inl h)))
  · exact br_f (lx_nn (by omega) h) (br_t h (br_t rfl (h0 en' w ws' wl' hw hws hb (Or.inr h))))
  · refine br_f (nI_pos (by omega)) (br_f (nI_ge hm (by omega)) (br_f (by decide) ⟨vp_in_nI (by omega) (by omega), ?_⟩))
    rw [nI_clamp (show m < 2 ^ 31 by omega)]
    show post (ws' m) (nI T, f1, nI R, nI s, nI w, c, l, fi, se, st, ru, tx, en', ws', wl', cn)
    rw [(hv m hm).2.2]
    exact h1 en' w ws' wl' m hw hws hb hm rfl
theorem lx_lengthX {post : Int32 → SX → Prop} {C P Q : Nat → Nat} {e : Nat → Nat → Prop} {A : Nat → Nat} {T s R : Nat} {x : Int32} (hT : T ≤ 40) (hs : s ≤ 30) (hR : R ≤ 5) (hA : ∀ r, r < R → ru r = nI (A r) ∧ A r < T)
    (N : ∀ t, t < T → lx_NX c fi se C P Q t) (he : ∀ t i, i < s → (tx i = l t ↔ e t i))
    (h1 : ∀ en' w ws' wl' m, w ≤ 30 → lx_b (lx_E (lx_M C P Q e s) A R s) w = s → (∀ v, v < w → lx_b (lx_E (lx_M C P Q e s) A R s) v < s) → m < w → x = nI m → post (nI (lx_b (lx_E (lx_M C P Q e s) A R s) (m + 1)) - nI (lx_b (lx_E (lx_M C P Q e s) A R s) m)) (nI T, f1, nI R, nI s, nI w, c, l, fi, se, st, ru, tx, en', ws', wl', cn))
    (h0 : ∀ en' w ws' wl', w ≤ 30 → lx_b (lx_E (lx_M C P Q e s) A R s) w = s → (∀ v, v < w → lx_b (lx_E (lx_M C P Q e s) A R s) v < s) → (x < 0 ∨ nI w ≤ x) → post 0 (nI T, f1, nI R, nI s, nI w, c, l, fi, se, st, ru, tx, en', ws', wl', cn)) :
    wpX_length post (nI T, f1, nI R, nI s, f4, c, l, fi, se, st, ru, tx, en, ws, wl, cn) x := by
  unfold wpX_length
  dsimp only
  refine lx_cut (A := A) hT hs hR hA N he fun en' w ws' wl' hw hws hv => ?_
  have hb : ∀ v, v < w → lx_b (lx_E (lx_M C P Q e s) A R s) v < s := fun v z => (hv v z).1
  rcases pk_ix x (n := w) (by omega) with h | h | ⟨m, hm, rfl⟩
  · exact br_t h (br_t rfl (h0 en' w ws' wl' hw hws hb (Or.inl h)))
  · exact br_f (lx_nn (by omega) h) (br_t h (br_t rfl (h0 en' w ws' wl' hw hws hb (Or.inr h))))
  · refine br_f (nI_pos (by omega)) (br_f (nI_ge hm (by omega)) (br_f (by decide) ⟨vp_in_nI (by omega) (by omega), ?_⟩))
    rw [nI_clamp (show m < 2 ^ 31 by omega)]
    show post (wl' m) (nI T, f1, nI R, nI s, nI w, c, l, fi, se, st, ru, tx, en', ws', wl', cn)
    rw [(hv m hm).2.1]
    exact h1 en' w ws' wl' m hw hws hb hm rfl
theorem lx_isRule {post : Int32 → Prop} {R : Nat} {x : Int32} (hR : R ≤ 5) (h1 : ∀ m, m < R → x = nI m → post 1) (h0 : (x < 0 ∨ nI R ≤ x) → post 0) : wpX_isRule post (f0, f1, nI R, f3, f4, c, l, fi, se, st, ru, tx, en, ws, wl, cn) x := by
  rcases pk_ix x (n := R) (by omega) with h | h | ⟨m, hm, rfl⟩
  · exact br_t h (h0 (Or.inl h))
  · exact br_f (lx_nn (by omega) h) (br_t h (h0 (Or.inr h)))
  · exact br_f (nI_pos (by omega)) (br_f (nI_ge hm (by omega)) (h1 m hm rfl))
end
end
section
/-- what both keep alike is one function; what a query works out is free -/
def i_Rel (_ : Nat) (u : SX) (v : SY) : Prop :=
  ∃ (T H R L : Nat) (f4 g4 : Int32) (c l fi se le ri st ru tx en ws wl cn rw ft : Nat → Int32), lx_OK T H R L c fi se le ri st ru ∧
    u = (nI T, nI H, nI R, nI L, f4, c, l, fi, se, st, ru, tx, en, ws, wl, cn) ∧ v = (nI T, nI H, nI R, nI L, g4, c, l, le, ri, st, ru, tx, rw, ft, 38440)
theorem lx_rel {k T H R L : Nat} {f4 g4 : Int32} {c l fi se le ri st ru tx en ws wl cn rw ft : Nat → Int32} (h : lx_OK T H R L c fi se le ri st ru) :
    i_Rel k (nI T, nI H, nI R, nI L, f4, c, l, fi, se, st, ru, tx, en, ws, wl, cn) (nI T, nI H, nI R, nI L, g4, c, l, le, ri, st, ru, tx, rw, ft, 38440) :=
  ⟨T, H, R, L, f4, g4, c, l, fi, se, le, ri, st, ru, tx, en, ws, wl, cn, rw, ft, h, rfl, rfl⟩
theorem i_up {k : Nat} {u : SX} {v : SY} (h : i_Rel k u v) : i_Rel (k + 3) u v := h
theorem i_vc0 : wpX_init (fun u => wpY_init (fun v => i_Rel 0 u v)) := by
  refine ⟨by decide, nm_r (e' := 38440) (nI_clamp (n := 38440) (by omega)) ⟨Nat.le_refl _, ?_⟩⟩
  exact lx_rel (T := 0) (H := 0) (R := 0) (L := 0) ⟨by omega, by omega, by omega, by omega, fun t h => absurd h (Nat.not_lt_zero _), fun t h => absurd h (Nat.not_lt_zero _), fun t h => absurd h (Nat.not_lt_zero _)⟩
theorem i_vc_token {k : Nat} {u : SX} {v : SY} (I : i_Rel k u v) (hk : k + 3 ≤ 1536) (v1 : Int32) (v2 : Int32) : wpX_token (fun r u' => wpY_token (fun r' v' => r' = r ∧ i_Rel (k + 3) u' v') v v1 v2) u v1 v2 := by
  obtain ⟨T, H, R, L, f4, g4, c, l, fi, se, le, ri, st, ru, tx, en, ws, wl, cn, rw, ft, hO, rfl, rfl⟩ := I
  rcases pk_ix v1 (n := 8) (by omega) with h | h | ⟨j, hj, rfl⟩
  · unfold wpX_token
    dsimp only
    exact br_t h (br_t rfl (br_t h ⟨rfl, lx_rel hO⟩))
  · unfold wpX_token
    dsimp only
    have hb := lx_big h
    exact br_f hb.1 (br_t hb.2 (br_t rfl (br_f hb.1 (br_t hb.2 ⟨rfl, lx_rel hO⟩))))
  · have hO' := hO
    obtain ⟨h1, h2, h3, h4, hN, hS, hR⟩ := hO'
    have hc := lx_pt_c hj
    refine lx_tokX hj h1 h2 h3 (fun z => ?_) (fun a b d z => ?_) (fun a d z => ?_)
    · exact lx_tokY hj h1 h2 h3 (fun _ => ⟨rfl, lx_rel hO⟩) (fun a b d => absurd ⟨a, b, d⟩ z)
    · refine lx_tokY hj h1 h2 h3 (fun y => absurd ⟨a, fun _ => b, d⟩ y) (fun _ _ _ => ?_)
      refine lx_t46 hj a h2 d (fun _ => ⟨b, rfl, ?_⟩) (fun y => absurd z y)
      have e1 : lx_pt j = 1 := by omega
      have e2 : (if lx_pt j = 0 then (0 : Int32) else st (H - lx_pt j)) = st (H - 1) := by rw [e1]; rfl
      have e3 : (if lx_pt j = 0 then ri T else st (H - 1)) = st (H - 1) := by rw [e1]; rfl
      have hr := lx_rel (k := k + 3) (f4 := f4) (g4 := g4) (l := upd l T (v2 &&& 3)) (tx := tx) (en := en) (ws := ws) (wl := wl) (cn := cn) (rw := rw) (ft := ft) (lx_OK_7 hO z a b d)
      rw [e3]
      rw [e2] at hr ⊢
      exact hr
    · refine lx_tokY hj h1 h2 h3 (fun y => absurd ⟨a, fun x => absurd x z, d⟩ y) (fun _ _ _ => ?_)
      exact lx_t46 hj a h2 d (fun y => absurd y z) (fun _ => ⟨rfl, lx_rel (lx_OK_n hO hj a d)⟩)
theorem i_vc_clear {k : Nat} {u : SX} {v : SY} (I : i_Rel k u v) (hk : k + 3 ≤ 1536) : wpX_clear (fun u' => wpY_clear (fun v' => i_Rel (k + 3) u' v') v) u := by
  obtain ⟨T, H, R, L, f4, g4, c, l, fi, se, le, ri, st, ru, tx, en, ws, wl, cn, rw, ft, hO, rfl, rfl⟩ := I
  exact lx_rel (k := k + 3) (T := 0) (H := 0) (R := 0) ⟨by omega, by omega, by omega, hO.2.2.2.1, fun t h => absurd h (Nat.not_lt_zero _), fun t h => absurd h (Nat.not_lt_zero _), fun t h => absurd h (Nat.not_lt_zero _)⟩
theorem i_vc_type {k : Nat} {u : SX} {v : SY} (I : i_Rel k u v) (hk : k + 3 ≤ 1536) (v1 : Int32) : wpX_type (fun r u' => wpY_type (fun r' v' => r' = r ∧ i_Rel (k + 3) u' v') v v1) u v1 := by
  obtain ⟨T, H, R, L, f4, g4, c, l, fi, se, le, ri, st, ru, tx, en, ws, wl, cn, rw, ft, hO, rfl, rfl⟩ := I
  have hO' := hO
  obtain ⟨h1, h2, h3, h4, h5⟩ := hO'
  refine pk_lt L 30 (fun z => ?_) (fun z => ?_)
  · refine ⟨vp_in_nI z (by omega), nm_r (e' := upd tx L (v1 &&& 3)) (by rw [nI_clamp (by omega)]) (nm_r (nI_1 L) ?_)⟩
    refine pk_eq L 30 (fun y => by omega) (fun y => ?_)
    refine ⟨vp_in_nI z (by omega), nm_r (e' := upd tx L (v1 &&& 3)) (by rw [nI_clamp (by omega)]) (nm_r (nI_1 L) ⟨rfl, ?_⟩)⟩
    exact lx_rel (L := L + 1) ⟨h1, h2, h3, z, h5⟩
  · exact pk_eq L 30 (fun y => ⟨rfl, lx_rel hO⟩) (fun y => by omega)
theorem i_vc_erase {k : Nat} {u : SX} {v : SY} (I : i_Rel k u v) (hk : k + 3 ≤ 1536) : wpX_erase (fun u' => wpY_erase (fun v' => i_Rel (k + 3) u' v') v) u := by
  obtain ⟨T, H, R, L, f4, g4, c, l, fi, se, le, ri, st, ru, tx, en, ws, wl, cn, rw, ft, hO, rfl, rfl⟩ := I
  obtain ⟨h1, h2, h3, h4, h5⟩ := hO
  exact lx_rel (k := k + 3) (L := 0) ⟨h1, h2, h3, by omega, h5⟩
theorem i_vc_words {k : Nat} {u : SX} {v : SY} (I : i_Rel k u v) (hk : k + 3 ≤ 1536) : wpX_words (fun r u' => wpY_words (fun r' v' => r' = r ∧ i_Rel (k + 3) u' v') v) u := by
  obtain ⟨T, H, R, L, f4, g4, c, l, fi, se, le, ri, st, ru, tx, en, ws, wl, cn, rw, ft, hO, rfl, rfl⟩ := I
  have hO' := hO
  obtain ⟨h1, h2, h3, h4, hN, hS, hR⟩ := hO'
  unfold wpX_words
  dsimp only
  refine lx_cut (e := fun t i => tx i = l t) h1 h4 h3 (lx_ru h1 hR) (fun t h => (lx_nd (by omega) (hN t h)).1) (fun _ _ _ => Iff.rfl) fun en' w ws' wl' hw hws hv => ?_
  exact lx_words (e := fun t i => tx i = l t) h1 h4 h3 (lx_ru h1 hR) (fun t h => (lx_nd (by omega) (hN t h)).2) (fun _ _ _ => Iff.rfl) hw hws (fun v z => (hv v z).1) fun rw' ft' => ⟨rfl, lx_rel hO⟩
theorem i_vc_sort {k : Nat} {u : SX} {v : SY} (I : i_Rel k u v) (hk : k + 3 ≤ 1536) (v1 : Int32) : wpX_sort (fun r u' => wpY_sort (fun r' v' => r' = r ∧ i_Rel (k + 3) u' v') v v1) u v1 := by
  obtain ⟨T, H, R, L, f4, g4, c, l, fi, se, le, ri, st, ru, tx, en, ws, wl, cn, rw, ft, hO, rfl, rfl⟩ := I
  have hO' := hO
  obtain ⟨h1, h2, h3, h4, hN, hS, hR⟩ := hO'
  refine lx_sortX (e := fun t i => tx i = l t) h1 h4 h3 (lx_ru h1 hR) (fun t h => (lx_nd (by omega) (hN t h)).1) (fun _ _ _ => Iff.rfl) (fun en' w ws' wl' m hw hws hb hm e => ?_) (fun en' w ws' wl' hw hws hb hx => ?_)
  · refine lx_sortY (e := fun t i => tx i = l t) h1 h4 h3 (lx_ru h1 hR) (fun t h => (lx_nd (by omega) (hN t h)).2) (fun _ _ _ => Iff.rfl) hw hws hb (fun rw' ft' m' hm' e' => ?_) (fun rw' ft' hx => ?_)
    · have hmm : m' = m := (nI_eq (by omega) (by omega)).mp (e'.symm.trans e)
      subst hmm
      exact ⟨rfl, lx_rel hO⟩
    · subst e
      rcases hx with hx | hx
      · exact absurd hx (nI_pos (by omega))
      · exact absurd hx (nI_ge hm (by omega))
  · refine lx_sortY (e := fun t i => tx i = l t) h1 h4 h3 (lx_ru h1 hR) (fun t h => (lx_nd (by omega) (hN t h)).2) (fun _ _ _ => Iff.rfl) hw hws hb (fun rw' ft' m hm e => ?_) (fun rw' ft' hx => ⟨rfl, lx_rel hO⟩)
    subst e
    rcases hx with hx | hx
    · exact absurd hx (nI_pos (by omega))
    · exact absurd hx (nI_ge hm (by omega))
theorem i_vc_length {k : Nat} {u : SX} {v : SY} (I : i_Rel k u v) (hk : k + 3 ≤ 1536) (v1 : Int32) : wpX_length (fun r u' => wpY_length (fun r' v' => r' = r ∧ i_Rel (k + 3) u' v') v v1) u v1 := by
  obtain ⟨T, H, R, L, f4, g4, c, l, fi, se, le, ri, st, ru, tx, en, ws, wl, cn, rw, ft, hO, rfl, rfl⟩ := I
  have hO' := hO
  obtain ⟨h1, h2, h3, h4, hN, hS, hR⟩ := hO'
  refine lx_lengthX (e := fun t i => tx i = l t) h1 h4 h3 (lx_ru h1 hR) (fun t h => (lx_nd (by omega) (hN t h)).1) (fun _ _ _ => Iff.rfl) (fun en' w ws' wl' m hw hws hb hm e => ?_) (fun en' w ws' wl' hw hws hb hx => ?_)
  · refine lx_lengthY (e := fun t i => tx i = l t) h1 h4 h3 (lx_ru h1 hR) (fun t h => (lx_nd (by omega) (hN t h)).2) (fun _ _ _ => Iff.rfl) hw hws hb (fun rw' ft' m' hm' e' => ?_) (fun rw' ft' hx => ?_)
    · have hmm : m' = m := (nI_eq (by omega) (by omega)).mp (e'.symm.trans e)
      subst hmm
      exact ⟨rfl, lx_rel hO⟩
    · subst e
      rcases hx with hx | hx
      · exact absurd hx (nI_pos (by omega))
      · exact absurd hx (nI_ge hm (by omega))
  · refine lx_lengthY (e := fun t i => tx i = l t) h1 h4 h3 (lx_ru h1 hR) (fun t h => (lx_nd (by omega) (hN t h)).2) (fun _ _ _ => Iff.rfl) hw hws hb (fun rw' ft' m hm e => ?_) (fun rw' ft' hx => ⟨rfl, lx_rel hO⟩)
    subst e
    rcases hx with hx | hx
    · exact absurd hx (nI_pos (by omega))
    · exact absurd hx (nI_ge hm (by omega))
theorem i_vc_matches {k : Nat} {u : SX} {v : SY} (I : i_Rel k u v) (hk : k + 3 ≤ 1536) (v1 : Int32) : wpX_matches (fun r u' => wpY_matches (fun r' v' => r' = r ∧ i_Rel (k + 3) u' v') v v1) u v1 := by
  obtain ⟨T, H, R, L, f4, g4, c, l, fi, se, le, ri, st, ru, tx, en, ws, wl, cn, rw, ft, hO, rfl, rfl⟩ := I
  have hO' := hO
  obtain ⟨h1, h2, h3, h4, hN, hS, hR⟩ := hO'
  unfold wpX_matches
  dsimp only
  refine lx_isRule h3 (fun m hm e => br_f (by decide) ?_) (fun hx => br_t rfl ?_)
  · subst e
    refine lx_fe_text (e := fun t i => tx i = l t) h1 h4 h4 (fun t h => (lx_nd (by omega) (hN t h)).1) (fun _ _ _ => Iff.rfl) fun en' hD => ?_
    refine lx_isRow (i := 0) h1 h4 (by omega) (lx_ru h1 hR m hm).1 (lx_ru h1 hR m hm).2 (by omega) (Nat.le_refl _) hD (fun hm1 => br_f (by decide) ?_) (fun hm0 => br_t rfl ?_)
    · exact lx_matchY (e := fun t i => tx i = l t) h1 h4 h3 (lx_ru h1 hR) hm (fun t h => (lx_nd (by omega) (hN t h)).2) (fun _ _ _ => Iff.rfl) (fun _ rw' ft' => ⟨rfl, lx_rel hO⟩) (fun z => absurd hm1 z)
    · exact lx_matchY (e := fun t i => tx i = l t) h1 h4 h3 (lx_ru h1 hR) hm (fun t h => (lx_nd (by omega) (hN t h)).2) (fun _ _ _ => Iff.rfl) (fun z => absurd z hm0) (fun _ rw' ft' => ⟨rfl, lx_rel hO⟩)
  · rcases hx with hx | hx
    · exact br_t hx ⟨rfl, lx_rel hO⟩
    · exact br_f (lx_nn (by omega) hx) (br_f (Int32.not_lt.mpr hx) ⟨rfl, lx_rel hO⟩)
theorem i_vc_count {k : Nat} {u : SX} {v : SY} (I : i_Rel k u v) (hk : k + 3 ≤ 1536) (v1 : Int32) (v2 : Int32) : wpX_count (fun r u' => wpY_count (fun r' v' => r' = r ∧ i_Rel (k + 3) u' v') v v1 v2) u v1 v2 := by
  obtain ⟨T, H, R, L, f4, g4, c, l, fi, se, le, ri, st, ru, tx, en, ws, wl, cn, rw, ft, hO, rfl, rfl⟩ := I
  have hO' := hO
  obtain ⟨h1, h2, h3, h4, hN, hS, hR⟩ := hO'
  unfold wpX_count
  dsimp only
  refine lx_isRule h3 (fun m hm e => br_f (by decide) ?_) (fun hx => br_t rfl ?_)
  · subst e
    rcases pk_ix v2 (n := 5) (by omega) with h | h | ⟨n, hn, rfl⟩
    · exact br_t h (br_f (nI_pos (by omega)) (br_f (nI_ge hm (by omega)) (br_t h ⟨rfl, lx_rel hO⟩)))
    · have hb : ¬ v2 ≤ 4 := by
        rw [Int32.le_iff_toInt_le, show (nI 5).toInt = 5 by decide] at h
        rw [Int32.le_iff_toInt_le, show (4 : Int32).toInt = 4 by decide]
        omega
      exact br_f (lx_nn (by omega) h) (br_f hb (br_f (nI_pos (by omega)) (br_f (nI_ge hm (by omega)) (br_f (lx_nn (by omega) h) (br_f hb ⟨rfl, lx_rel hO⟩)))))
    · refine br_f (nI_pos (by omega)) (br_t (nI_le (b := 4) (by omega) (by omega)) (nm_r (lx_all (by omega)).1 ⟨2 ^ (2 * n) + 1, ?_⟩))
      refine lx_ct31 h1 h3 (lx_ru h1 hR) hm (by omega) (lx_all (by omega)).2 (fun t h => (lx_nd (by omega) (hN t h)).1) (fun en' cn' => ?_) (2 ^ (2 * n)) 0 en cn (by omega)
      exact lx_countY h1 h3 (lx_ru h1 hR) hm (by omega) (fun t h => (lx_nd (by omega) (hN t h)).2) fun rw' ft' => ⟨rfl, lx_rel hO⟩
  · rcases hx with hx | hx
    · exact br_t hx ⟨rfl, lx_rel hO⟩
    · exact br_f (lx_nn (by omega) hx) (br_t hx ⟨rfl, lx_rel hO⟩)
theorem i_vc_sortOf {k : Nat} {u : SX} {v : SY} (I : i_Rel k u v) (hk : k + 3 ≤ 1536) (v1 : Int32) (v2 : Int32) : wpX_sortOf (fun r u' => wpY_sortOf (fun r' v' => r' = r ∧ i_Rel (k + 3) u' v') v v1 v2) u v1 v2 := by
  obtain ⟨T, H, R, L, f4, g4, c, l, fi, se, le, ri, st, ru, tx, en, ws, wl, cn, rw, ft, hO, rfl, rfl⟩ := I
  have hO' := hO
  obtain ⟨h1, h2, h3, h4, hN, hS, hR⟩ := hO'
  by_cases z0 : v1 < 0
  · exact br_t z0 (br_t z0 ⟨rfl, lx_rel hO⟩)
  · by_cases z1 : v2 < v1
    · exact br_f z0 (br_t z1 (br_f z0 (br_t z1 ⟨rfl, lx_rel hO⟩)))
    · by_cases z2 : v2 ≤ nI L
      · obtain ⟨a, ha, rfl⟩ := nI_of z0
        obtain ⟨b, hb, rfl⟩ := nI_of (lx_nn ha (Int32.not_lt.mp z1))
        have hab : a ≤ b := (nI_leI ha hb).mp (Int32.not_lt.mp z1)
        have hbL : b ≤ L := (nI_leI hb (by omega)).mp z2
        refine br_f z0 (br_f z1 (br_t z2 ?_))
        refine lx_fe_text (e := fun t i => tx i = l t) h1 h4 h4 (fun t h => (lx_nd (by omega) (hN t h)).1) (fun _ _ _ => Iff.rfl) fun en' hD => ?_
        refine lx_leastRule h1 h4 h3 (lx_ru h1 hR) (by omega) hbL hD ?_
        exact lx_sortOfY (e := fun t i => tx i = l t) h1 h4 h3 (lx_ru h1 hR) hab hbL (fun t h => (lx_nd (by omega) (hN t h)).2) (fun _ _ _ => Iff.rfl) fun rw' ft' => ⟨rfl, lx_rel hO⟩
      · exact br_f z0 (br_f z1 (br_f z2 (br_f z0 (br_f z1 (br_f z2 ⟨rfl, lx_rel hO⟩)))))
end
