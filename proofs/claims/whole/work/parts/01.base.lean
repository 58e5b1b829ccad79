theorem pk_us {f : Nat → Int32} {k : Nat} {x : Int32} : upd f k x k = x := if_pos rfl
theorem pk_un {f : Nat → Int32} {k j : Nat} {x : Int32} (h : j ≠ k) : upd f k x j = f j := if_neg h
theorem pk_sub {a b : Nat} (h : b ≤ a) : nI a - nI b = nI (a - b) := by
  obtain ⟨c, rfl⟩ : ∃ c, a = c + b := ⟨a - b, by omega⟩
  rw [← nI_add, Int32.add_sub_cancel, Nat.add_sub_cancel]
theorem pk_m1 (n : Nat) : nI (n + 1) + (-1) = nI n := by
  rw [← nI_1, Int32.add_assoc, show (1 : Int32) + (-1) = 0 from rfl, Int32.add_zero]
theorem pk_mul (a b : Nat) : nI a * nI b = nI (a * b) := (Int32.ofNat_mul a b).symm
theorem pk_div {a d : Nat} (ha : a < 2 ^ 31) (h0 : 0 < d) (hd : d < 2 ^ 31) : nI a / nI d = nI (a / d) := by
  apply Int32.toInt_inj.mp
  rw [lg_idiv_nonneg (by rw [nI_toInt ha]; omega) (by rw [nI_toInt hd]; omega), nI_toInt ha, nI_toInt hd, nI_toInt (Nat.lt_of_le_of_lt (Nat.div_le_self a d) ha)]
  first | rfl | exact (Int.natCast_ediv _ _).symm
theorem pk_rem {a d : Nat} (ha : a < 2 ^ 31) (h0 : 0 < d) (hd : d < 2 ^ 31) : nI a - nI a / nI d * nI d = nI (a % d) := by
  rw [pk_div ha h0 hd, pk_mul, pk_sub (Nat.div_mul_le_self a d)]
  exact congrArg nI (by have := Nat.div_add_mod' a d; omega)
theorem pk_sub_toInt {a b : Nat} (ha : a < 2 ^ 30) (hb : b < 2 ^ 30) : (nI a - nI b).toInt = (a : Int) - b := by
  rw [Int32.toInt_sub, nI_toInt (by omega), nI_toInt (by omega)]
  exact Int.bmod_eq_of_le (by omega) (by omega)
theorem pk_sneg {a b : Nat} (hb : b < 2 ^ 30) (h : a < b) : nI a - nI b < 0 := by
  rw [Int32.lt_iff_toInt_lt, pk_sub_toInt (by omega) hb, show (0 : Int32).toInt = 0 from by decide]
  omega
theorem pk_ix (x : Int32) {n : Nat} (hn : n < 2 ^ 31) : x < 0 ∨ nI n ≤ x ∨ ∃ j : Nat, j < n ∧ x = nI j := by
  by_cases h : x < 0
  · exact Or.inl h
  · obtain ⟨j, hj, rfl⟩ := nI_of h
    by_cases h2 : j < n
    · exact Or.inr (Or.inr ⟨j, h2, rfl⟩)
    · exact Or.inr (Or.inl (nI_le (by omega) hj))
theorem pk_le {x y : Int32} {A B : Prop} (a b : Nat) (f : a ≤ b → A) (g : b < a → B) (hx : x = nI a := by rfl) (hy : y = nI b := by rfl) (ha : a < 2 ^ 31 := by omega) (hb : b < 2 ^ 31 := by omega) : (x ≤ y → A) ∧ (¬ x ≤ y → B) := by
  subst hx hy
  rw [nI_leI ha hb]
  exact ⟨f, fun z => g (by omega)⟩
theorem pk_lt {x y : Int32} {A B : Prop} (a b : Nat) (f : a < b → A) (g : b ≤ a → B) (hx : x = nI a := by rfl) (hy : y = nI b := by rfl) (ha : a < 2 ^ 31 := by omega) (hb : b < 2 ^ 31 := by omega) : (x < y → A) ∧ (¬ x < y → B) := by
  subst hx hy
  rw [nI_ltI ha hb]
  exact ⟨f, fun z => g (by omega)⟩
theorem pk_eq {x y : Int32} {A B : Prop} (a b : Nat) (f : a = b → A) (g : a ≠ b → B) (hx : x = nI a := by rfl) (hy : y = nI b := by rfl) (ha : a < 2 ^ 31 := by omega) (hb : b < 2 ^ 31 := by omega) : (x = y → A) ∧ (¬ x = y → B) := by
  subst hx hy
  rw [nI_eq ha hb]
  exact ⟨f, g⟩
theorem pk_in {x : Int32} (n N : Nat) (h : n < N) (hx : x = nI n := by rfl) (hN : N < 2 ^ 31 := by omega) : vp_in x N := by
  subst hx
  exact vp_in_nI h hN
theorem pk_cl {x : Int32} (n : Nat) (hx : x = nI n := by rfl) (h : n < 2 ^ 31 := by omega) : x.toNatClampNeg = n := by
  subst hx
  exact nI_clamp h
theorem pk_and (x : Int32) {m : Int32} (k : Nat) (hm : m.toBitVec.toNat = 2 ^ k - 1) : x &&& m = nI (x.toBitVec.toNat % 2 ^ k) := by
  apply Int32.toBitVec_inj.mp
  apply BitVec.eq_of_toNat_eq
  rw [Int32.toBitVec_and, BitVec.toNat_and, hm, Nat.and_two_pow_sub_one_eq_mod]
  show _ = (BitVec.ofNat 32 _).toNat
  rw [BitVec.toNat_ofNat]
  exact (Nat.mod_eq_of_lt (Nat.lt_of_le_of_lt (Nat.mod_le _ _) x.toBitVec.isLt)).symm
theorem cd_nar0 : vp_nar .boolean 0 = 0 := rfl
theorem cd_nar1 : vp_nar .boolean 1 = 1 := rfl
theorem cd_cl {n : Nat} (h : n < 2147483648) : (nI n).toNatClampNeg = n := nI_clamp (by omega)
theorem cd_nm1 {n : Nat} (h : n < 2147483648) : ¬ nI n = -1 := by
  intro e
  have h1 : (nI n).toInt = (n : Int) := nI_toInt (by omega)
  rw [e] at h1
  have h2 : (-1 : Int32).toInt = -1 := by decide
  omega
theorem cd_m1neg : (-1 : Int32) < 0 := by decide
theorem cd_m1nn : ¬ (0 : Int32) ≤ -1 := by decide
/-- a stretch of an array filled by f -/
def cd_fo (a : Nat → Int32) (s : Nat) : Nat → (Nat → Int32) → Nat → Int32
  | 0, _ => a
  | n + 1, f => upd (cd_fo a s n f) (s + n) (f n)
theorem cd_fo_0 (a : Nat → Int32) (s : Nat) (f : Nat → Int32) : cd_fo a s 0 f = a := rfl
theorem cd_fo_s (a : Nat → Int32) (s i : Nat) (f : Nat → Int32) : upd (cd_fo a s i f) (s + i) (f i) = cd_fo a s (i + 1) f := rfl
theorem cd_fo_e (a : Nat → Int32) (s : Nat) (f : Nat → Int32) (j : Nat) : ∀ n, cd_fo a s n f j = if s ≤ j ∧ j < s + n then f (j - s) else a j
  | 0 => (if_neg (by omega)).symm
  | i + 1 => by
    show upd (cd_fo a s i f) (s + i) (f i) j = _
    unfold upd
    rw [cd_fo_e a s f j i]
    by_cases h : j = s + i
    · subst h
      rw [if_pos rfl, if_pos (by omega)]
      exact congrArg f (by omega)
    · rw [if_neg h]
      by_cases h2 : s ≤ j ∧ j < s + i
      · rw [if_pos h2, if_pos (by omega)]
      · rw [if_neg h2, if_neg (by omega)]
theorem cd_fo_in {a : Nat → Int32} {s n : Nat} {f : Nat → Int32} {j : Nat} (h1 : s ≤ j) (h2 : j < s + n) : cd_fo a s n f j = f (j - s) := (cd_fo_e a s f j n).trans (if_pos ⟨h1, h2⟩)
theorem cd_fo_out {a : Nat → Int32} {s n : Nat} {f : Nat → Int32} {j : Nat} (h : j < s ∨ s + n ≤ j) : cd_fo a s n f j = a j := (cd_fo_e a s f j n).trans (if_neg (by omega))
theorem cd_fo_k {a : Nat → Int32} {s n : Nat} {f : Nat → Int32} {k : Nat} (h : k < n) : cd_fo a s n f (s + k) = f k := by
  rw [cd_fo_in (by omega) (by omega)]
  exact congrArg f (by omega)
/-- the store of a loop's turn, as it is printed -/
theorem cd_fo_u {a : Nat → Int32} {s i : Nat} {f : Nat → Int32} {q : Int32} {v : Int32} (hq : q = nI (s + i)) (hb : s + i < 2147483648) (hv : v = f i) : upd (cd_fo a s i f) q.toNatClampNeg v = cd_fo a s (i + 1) f := by
  rw [hq, cd_cl hb, hv, cd_fo_s]
theorem cd_fo_z {a : Nat → Int32} {i : Nat} {f : Nat → Int32} {v : Int32} (hb : i < 2147483648) (hv : v = f i) : upd (cd_fo a 0 i f) (nI i).toNatClampNeg v = cd_fo a 0 (i + 1) f :=
  cd_fo_u (by rw [Nat.zero_add]) (by omega) hv
/-- sums -/
def cd_sm (f : Nat → Nat) : Nat → Nat
  | 0 => 0
  | n + 1 => cd_sm f n + f n
theorem cd_sm_c {f g : Nat → Nat} : ∀ n, (∀ i, i < n → f i = g i) → cd_sm f n = cd_sm g n
  | 0, _ => rfl
  | n + 1, h => by
    show cd_sm f n + f n = cd_sm g n + g n
    rw [cd_sm_c n (fun i hi => h i (by omega)), h n (by omega)]
theorem cd_sm_u {f g : Nat → Nat} {j : Nat} : ∀ n, j < n → (∀ i, i < n → i ≠ j → g i = f i) → cd_sm g n + f j = cd_sm f n + g j
  | 0, hj, _ => absurd hj (by omega)
  | n + 1, hj, h => by
    show cd_sm g n + g n + f j = cd_sm f n + f n + g j
    by_cases e : j = n
    · subst e
      rw [cd_sm_c (f := g) (g := f) j (fun i hi => h i (by omega) (by omega))]
      omega
    · have := cd_sm_u n (by omega) (fun i hi hne => h i (by omega) hne)
      rw [h n (by omega) (by omega)]
      omega
theorem cd_sm_le {f : Nat → Nat} {c : Nat} : ∀ n, (∀ i, i < n → f i ≤ c) → cd_sm f n ≤ n * c
  | 0, _ => Nat.zero_le _
  | n + 1, h => by
    have h1 := cd_sm_le n (fun i hi => h i (by omega))
    have h2 := h n (by omega)
    rw [Nat.succ_mul]
    show cd_sm f n + f n ≤ _
    omega
theorem cd_sm_ge {f : Nat → Nat} {c : Nat} : ∀ n, (∀ i, i < n → c ≤ f i) → n * c ≤ cd_sm f n
  | 0, _ => by omega
  | n + 1, h => by
    have h1 := cd_sm_ge n (fun i hi => h i (by omega))
    have h2 := h n (by omega)
    rw [Nat.succ_mul]
    show _ ≤ cd_sm f n + f n
    omega
theorem cd_sm_mono {f : Nat → Nat} {m : Nat} : ∀ n, m ≤ n → cd_sm f m ≤ cd_sm f n
  | 0, h => by
    have : m = 0 := by omega
    subst this
    exact Nat.le_refl _
  | n + 1, h => by
    by_cases e : m = n + 1
    · subst e; exact Nat.le_refl _
    · have := cd_sm_mono (f := f) (m := m) n (by omega)
      show _ ≤ cd_sm f n + f n
      omega
theorem cd_sm_st {f : Nat → Nat} {j n : Nat} (h : j < n) : cd_sm f j + f j ≤ cd_sm f n := cd_sm_mono (f := f) (m := j + 1) n h
theorem cd_sm_pt {f : Nat → Nat} {j n : Nat} (h : j < n) : f j ≤ cd_sm f n := by
  have := cd_sm_st (f := f) h
  omega
/-- all summands 0 -/
theorem cd_sm_0 {f : Nat → Nat} {n : Nat} (h : cd_sm f n = 0) {j : Nat} (hj : j < n) : f j = 0 := by
  have := cd_sm_pt (f := f) hj
  omega
/-- exits of a kind, and the first edge of a block -/
def cd_ec (k : Int32) : Nat := if k = 0 then 1 else if k = 1 then 1 else if k = 5 then 3 else 2
def cd_fs (kd : Nat → Int32) (b : Nat) : Nat := cd_sm (fun i => cd_ec (kd i)) b
theorem cd_ec_r (k : Int32) : 1 ≤ cd_ec k ∧ cd_ec k ≤ 3 := by
  unfold cd_ec
  split
  · omega
  · split
    · omega
    · split <;> omega
theorem cd_fs_s (kd : Nat → Int32) (b : Nat) : cd_fs kd (b + 1) = cd_fs kd b + cd_ec (kd b) := rfl
theorem cd_fs_lt {kd : Nat → Int32} {b c : Nat} (h : b < c) : cd_fs kd b + cd_ec (kd b) ≤ cd_fs kd c := cd_sm_st (f := fun i => cd_ec (kd i)) h
theorem cd_fs_b (kd : Nat → Int32) (n : Nat) : n ≤ cd_fs kd n ∧ cd_fs kd n ≤ 3 * n := by
  have h1 := cd_sm_le (f := fun i => cd_ec (kd i)) (c := 3) n (fun i _ => (cd_ec_r (kd i)).2)
  have h2 := cd_sm_ge (f := fun i => cd_ec (kd i)) (c := 1) n (fun i _ => (cd_ec_r (kd i)).1)
  unfold cd_fs
  omega
theorem cd_fs_inj {kd : Nat → Int32} {b c k l : Nat} (hk : k < cd_ec (kd b)) (hl : l < cd_ec (kd c)) (h : cd_fs kd b + k = cd_fs kd c + l) : b = c ∧ k = l := by
  by_cases e : b = c
  · subst e
    exact ⟨rfl, by omega⟩
  · by_cases g : b < c
    · have := cd_fs_lt (kd := kd) g
      omega
    · have := cd_fs_lt (kd := kd) (b := c) (c := b) (by omega)
      omega
theorem cd_fs_c {kd kd' : Nat → Int32} {n : Nat} (h : ∀ i, i < n → kd i = kd' i) : cd_fs kd n = cd_fs kd' n := cd_sm_c n (fun i hi => by
  show cd_ec (kd i) = cd_ec (kd' i)
  rw [h i hi])
/-- X's and Y's own exit counts -/
theorem cd_xec {post : Int32 → Prop} {k : Int32} (hp : post (nI (cd_ec k))) : wpX_exitsOfKind post k := by
  unfold wpX_exitsOfKind
  unfold cd_ec at hp
  refine br_c (fun h => ?_) (fun h => br_c (fun h1 => ?_) (fun h1 => br_c (fun h5 => ?_) (fun h5 => ?_)))
  · rw [if_pos h] at hp; exact hp
  · rw [if_neg h, if_pos h1] at hp; exact hp
  · rw [if_neg h, if_neg h1, if_pos h5] at hp; exact hp
  · rw [if_neg h, if_neg h1, if_neg h5] at hp; exact hp
theorem cd_kr : ∀ k : Nat, k < 6 → (2 ≤ nI k → ((5 ≤ nI k → cd_ec (nI k) = 3) ∧ (¬ 5 ≤ nI k → cd_ec (nI k) = 2))) ∧ (¬ 2 ≤ nI k → cd_ec (nI k) = 1) := by
  decide +kernel
theorem cd_yec {post : Int32 → Prop} {k : Int32} (hk : ∃ j : Nat, j < 6 ∧ k = nI j) (hp : post (nI (cd_ec k))) : wpY_exitsOf post k := by
  obtain ⟨j, hj, rfl⟩ := hk
  have h := cd_kr j hj
  unfold wpY_exitsOf
  refine br_c (fun h2 => br_c (fun h5 => ?_) (fun h5 => ?_)) (fun h2 => ?_)
  · rw [(h.1 h2).1 h5] at hp; exact hp
  · rw [(h.1 h2).2 h5] at hp; exact hp
  · rw [h.2 h2] at hp; exact hp
/-- a loop whose arrays are a function of its counter -/
theorem cd_loop (W : Nat → Nat → Prop) (N : Nat) (hx : ∀ n, W (n + 1) N) (hs : ∀ n i, i < N → W n (i + 1) → W (n + 1) i) : ∃ n, W n 0 := by
  have H : ∀ d i, i + d = N → W (d + 1) i := by
    intro d
    induction d with
    | zero =>
      intro i hi
      have : i = N := by omega
      subst this
      exact hx 0
    | succ d ih =>
      intro i hi
      exact hs _ i (by omega) (ih (i + 1) (by omega))
  exact ⟨N + 1, H N 0 (by omega)⟩
theorem cd_loop1 (W : Nat → Nat → Prop) (i0 N : Nat) (h0 : i0 ≤ N) (hx : ∀ n, W (n + 1) N) (hs : ∀ n i, i0 ≤ i → i < N → W n (i + 1) → W (n + 1) i) : ∃ n, W n i0 := by
  have H : ∀ d i, i0 ≤ i → i + d = N → W (d + 1) i := by
    intro d
    induction d with
    | zero =>
      intro i _ hi
      have : i = N := by omega
      subst this
      exact hx 0
    | succ d ih =>
      intro i h1 hi
      exact hs _ i h1 (by omega) (ih (i + 1) (by omega) (by omega))
  exact ⟨N - i0 + 1, H (N - i0) i0 (Nat.le_refl _) (by omega)⟩
