section
theorem pk_us {f : Nat → Int32} {k : Nat} {x : Int32} : upd f k x k = x := if_pos rfl
theorem pk_un {f : Nat → Int32} {k j : Nat} {x : Int32} (h : j ≠ k) : upd f k x j = f j := if_neg h
theorem pk_sub {a b : Nat} (h : b ≤ a) : nI a - nI b = nI (a - b) := by
  obtain ⟨c, rfl⟩ : ∃ c, a = c + b := ⟨a - b, by omega⟩
  rw [← nI_add, Int32.add_sub_cancel, Nat.add_sub_cancel]
theorem pk_m1 (n : Nat) : nI (n + 1) + (-1) = nI n := by
  rw [← nI_1, Int32.add_assoc, show (1 : Int32) + (-1) = 0 from rfl, Int32.add_zero]
theorem pk_mul (a b : Nat) : nI a * nI b = nI (a * b) := (Int32.ofNat_mul a b).symm
theorem pk_div {a d : Nat} (ha : a < 2 ^ 31) (h0 : 0 < d) (hd : d < 2 ^ 31) : nI a / nI d = nI (a / d) := by
  apply Int32.toInt_inj.mp
  rw [lg_idiv_nonneg (by rw [nI_toInt ha]; omega) (by rw [nI_toInt hd]; omega), nI_toInt ha, nI_toInt hd, nI_toInt (Nat.lt_of_le_of_lt (Nat.div_le_self a d) ha)]
  first | rfl | exact (Int.natCast_ediv _ _).symm
theorem pk_rem {a d : Nat} (ha : a < 2 ^ 31) (h0 : 0 < d) (hd : d < 2 ^ 31) : nI a - nI a / nI d * nI d = nI (a % d) := by
  rw [pk_div ha h0 hd, pk_mul, pk_sub (Nat.div_mul_le_self a d)]
  exact congrArg nI (by have := Nat.div_add_mod' a d; omega)
theorem pk_sub_toInt {a b : Nat} (ha : a < 2 ^ 30) (hb : b < 2 ^ 30) : (nI a - nI b).toInt = (a : Int) - b := by
  rw [Int32.toInt_sub, nI_toInt (by omega), nI_toInt (by omega)]
  exact Int.bmod_eq_of_le (by omega) (by omega)
theorem pk_sneg {a b : Nat} (hb : b < 2 ^ 30) (h : a < b) : nI a - nI b < 0 := by
  rw [Int32.lt_iff_toInt_lt, pk_sub_toInt (by omega) hb, show (0 : Int32).toInt = 0 from by decide]
  omega
theorem pk_ix (x : Int32) {n : Nat} (hn : n < 2 ^ 31) : x < 0 ∨ nI n ≤ x ∨ ∃ j : Nat, j < n ∧ x = nI j := by
  by_cases h : x < 0
  · exact Or.inl h
  · obtain ⟨j, hj, rfl⟩ := nI_of h
    by_cases h2 : j < n
    · exact Or.inr (Or.inr ⟨j, h2, rfl⟩)
    · exact Or.inr (Or.inl (nI_le (by omega) hj))
theorem pk_le {x y : Int32} {A B : Prop} (a b : Nat) (f : a ≤ b → A) (g : b < a → B) (hx : x = nI a := by rfl) (hy : y = nI b := by rfl) (ha : a < 2 ^ 31 := by omega) (hb : b < 2 ^ 31 := by omega) : (x ≤ y → A) ∧ (¬ x ≤ y → B) := by
  subst hx hy
  rw [nI_leI ha hb]
  exact ⟨f, fun z => g (by omega)⟩
theorem pk_lt {x y : Int32} {A B : Prop} (a b : Nat) (f : a < b → A) (g : b ≤ a → B) (hx : x = nI a := by rfl) (hy : y = nI b := by rfl) (ha : a < 2 ^ 31 := by omega) (hb : b < 2 ^ 31 := by omega) : (x < y → A) ∧ (¬ x < y → B) := by
  subst hx hy
  rw [nI_ltI ha hb]
  exact ⟨f, fun z => g (by omega)⟩
theorem pk_eq {x y : Int32} {A B : Prop} (a b : Nat) (f : a = b → A) (g : a ≠ b → B) (hx : x = nI a := by rfl) (hy : y = nI b := by rfl) (ha : a < 2 ^ 31 := by omega) (hb : b < 2 ^ 31 := by omega) : (x = y → A) ∧ (¬ x = y → B) := by
  subst hx hy
  rw [nI_eq ha hb]
  exact ⟨f, g⟩
theorem pk_in {x : Int32} (n N : Nat) (h : n < N) (hx : x = nI n := by rfl) (hN : N < 2 ^ 31 := by omega) : vp_in x N := by
  subst hx
  exact vp_in_nI h hN
theorem pk_cl {x : Int32} (n : Nat) (hx : x = nI n := by rfl) (h : n < 2 ^ 31 := by omega) : x.toNatClampNeg = n := by
  subst hx
  exact nI_clamp h
theorem pk_and (x : Int32) {m : Int32} (k : Nat) (hm : m.toBitVec.toNat = 2 ^ k - 1) : x &&& m = nI (x.toBitVec.toNat % 2 ^ k) := by
  apply Int32.toBitVec_inj.mp
  apply BitVec.eq_of_toNat_eq
  rw [Int32.toBitVec_and, BitVec.toNat_and, hm, Nat.and_two_pow_sub_one_eq_mod]
  show _ = (BitVec.ofNat 32 _).toNat
  rw [BitVec.toNat_ofNat]
  exact (Nat.mod_eq_of_lt (Nat.lt_of_le_of_lt (Nat.mod_le _ _) x.toBitVec.isLt)).symm
theorem cd_nar0 : vp_nar .boolean 0 = 0 := rfl
theorem cd_nar1 : vp_nar .boolean 1 = 1 := rfl
theorem cd_cl {n : Nat} (h : n < 2147483648) : (nI n).toNatClampNeg = n := nI_clamp (by omega)
theorem cd_nm1 {n : Nat} (h : n < 2147483648) : ¬ nI n = -1 := by
  intro e
  have h1 : (nI n).toInt = (n : Int) := nI_toInt (by omega)
  rw [e] at h1
  have h2 : (-1 : Int32).toInt = -1 := by decide
  omega
theorem cd_m1neg : (-1 : Int32) < 0 := by decide
theorem cd_m1nn : ¬ (0 : Int32) ≤ -1 := by decide
/-- a stretch of an array filled by f -/
def cd_fo (a : Nat → Int32) (s : Nat) : Nat → (Nat → Int32) → Nat → Int32
  | 0, _ => a
  | n + 1, f => upd (cd_fo a s n f) (s + n) (f n)
theorem cd_fo_0 (a : Nat → Int32) (s : Nat) (f : Nat → Int32) : cd_fo a s 0 f = a := rfl
theorem cd_fo_s (a : Nat → Int32) (s i : Nat) (f : Nat → Int32) : upd (cd_fo a s i f) (s + i) (f i) = cd_fo a s (i + 1) f := rfl
theorem cd_fo_e (a : Nat → Int32) (s : Nat) (f : Nat → Int32) (j : Nat) : ∀ n, cd_fo a s n f j = if s ≤ j ∧ j < s + n then f (j - s) else a j
  | 0 => (if_neg (by omega)).symm
  | i + 1 => by
    show upd (cd_fo a s i f) (s + i) (f i) j = _
    unfold upd
    rw [cd_fo_e a s f j i]
    by_cases h : j = s + i
    · subst h
      rw [if_pos rfl, if_pos (by omega)]
      exact congrArg f (by omega)
    · rw [if_neg h]
      by_cases h2 : s ≤ j ∧ j < s + i
      · rw [if_pos h2, if_pos (by omega)]
      · rw [if_neg h2, if_neg (by omega)]
theorem cd_fo_in {a : Nat → Int32} {s n : Nat} {f : Nat → Int32} {j : Nat} (h1 : s ≤ j) (h2 : j < s + n) : cd_fo a s n f j = f (j - s) := (cd_fo_e a s f j n).trans (if_pos ⟨h1, h2⟩)
theorem cd_fo_out {a : Nat → Int32} {s n : Nat} {f : Nat → Int32} {j : Nat} (h : j < s ∨ s + n ≤ j) : cd_fo a s n f j = a j := (cd_fo_e a s f j n).trans (if_neg (by omega))
theorem cd_fo_k {a : Nat → Int32} {s n : Nat} {f : Nat → Int32} {k : Nat} (h : k < n) : cd_fo a s n f (s + k) = f k := by
  rw [cd_fo_in (by omega) (by omega)]
  exact congrArg f (by omega)
/-- the store of a loop's turn, as it is printed -/
theorem cd_fo_u {a : Nat → Int32} {s i : Nat} {f : Nat → Int32} {q : Int32} {v : Int32} (hq : q = nI (s + i)) (hb : s + i < 2147483648) (hv : v = f i) : upd (cd_fo a s i f) q.toNatClampNeg v = cd_fo a s (i + 1) f := by
  rw [hq, cd_cl hb, hv, cd_fo_s]
theorem cd_fo_z {a : Nat → Int32} {i : Nat} {f : Nat → Int32} {v : Int32} (hb : i < 2147483648) (hv : v = f i) : upd (cd_fo a 0 i f) (nI i).toNatClampNeg v = cd_fo a 0 (i + 1) f :=
  cd_fo_u (by rw [Nat.zero_add]) (by omega) hv
/-- sums -/
def cd_sm (f : Nat → Nat) : Nat → Nat
  | 0 => 0
  | n + 1 => cd_sm f n + f n
theorem cd_sm_c {f g : Nat → Nat} : ∀ n, (∀ i, i < n → f i = g i) → cd_sm f n = cd_sm g n
  | 0, _ => rfl
  | n + 1, h => by
    show cd_sm f n + f n = cd_sm g n + g n
    rw [cd_sm_c n (fun i hi => h i (by omega)), h n (by omega)]
theorem cd_sm_u {f g : Nat → Nat} {j : Nat} : ∀ n, j < n → (∀ i, i < n → i ≠ j → g i = f i) → cd_sm g n + f j = cd_sm f n + g j
  | 0, hj, _ => absurd hj (by omega)
  | n + 1, hj, h => by
    show cd_sm g n + g n + f j = cd_sm f n + f n + g j
    by_cases e : j = n
    · subst e
      rw [cd_sm_c (f := g) (g := f) j (fun i hi => h i (by omega) (by omega))]
      omega
    · have := cd_sm_u n (by omega) (fun i hi hne => h i (by omega) hne)
      rw [h n (by omega) (by omega)]
      omega
theorem cd_sm_le {f : Nat → Nat} {c : Nat} : ∀ n, (∀ i, i < n → f i ≤ c) → cd_sm f n ≤ n * c
  | 0, _ => Nat.zero_le _
  | n + 1, h => by
    have h1 := cd_sm_le n (fun i hi => h i (by omega))
    have h2 := h n (by omega)
    rw [Nat.succ_mul]
    show cd_sm f n + f n ≤ _
    omega
theorem cd_sm_ge {f : Nat → Nat} {c : Nat} : ∀ n, (∀ i, i < n → c ≤ f i) → n * c ≤ cd_sm f n
  | 0, _ => by omega
  | n + 1, h => by
    have h1 := cd_sm_ge n (fun i hi => h i (by omega))
    have h2 := h n (by omega)
    rw [Nat.succ_mul]
    show _ ≤ cd_sm f n + f n
    omega
theorem cd_sm_mono {f : Nat → Nat} {m : Nat} : ∀ n, m ≤ n → cd_sm f m ≤ cd_sm f n
  | 0, h => by
    have : m = 0 := by omega
    subst this
    exact Nat.le_refl _
  | n + 1, h => by
    by_cases e : m = n + 1
    · subst e; exact Nat.le_refl _
    · have := cd_sm_mono (f := f) (m := m) n (by omega)
      show _ ≤ cd_sm f n + f n
      omega
theorem cd_sm_st {f : Nat → Nat} {j n : Nat} (h : j < n) : cd_sm f j + f j ≤ cd_sm f n := cd_sm_mono (f := f) (m := j + 1) n h
theorem cd_sm_pt {f : Nat → Nat} {j n : Nat} (h : j < n) : f j ≤ cd_sm f n := by
  have := cd_sm_st (f := f) h
  omega
/-- all summands 0 -/
theorem cd_sm_0 {f : Nat → Nat} {n : Nat} (h : cd_sm f n = 0) {j : Nat} (hj : j < n) : f j = 0 := by
  have := cd_sm_pt (f := f) hj
  omega
/-- exits of a kind, and the first edge of a block -/
def cd_ec (k : Int32) : Nat := if k = 0 then 1 else if k = 1 then 1 else if k = 5 then 3 else 2
def cd_fs (kd : Nat → Int32) (b : Nat) : Nat := cd_sm (fun i => cd_ec (kd i)) b
theorem cd_ec_r (k : Int32) : 1 ≤ cd_ec k ∧ cd_ec k ≤ 3 := by
  unfold cd_ec
  split
  · omega
  · split
    · omega
    · split <;> omega
theorem cd_fs_s (kd : Nat → Int32) (b : Nat) : cd_fs kd (b + 1) = cd_fs kd b + cd_ec (kd b) := rfl
theorem cd_fs_lt {kd : Nat → Int32} {b c : Nat} (h : b < c) : cd_fs kd b + cd_ec (kd b) ≤ cd_fs kd c := cd_sm_st (f := fun i => cd_ec (kd i)) h
theorem cd_fs_b (kd : Nat → Int32) (n : Nat) : n ≤ cd_fs kd n ∧ cd_fs kd n ≤ 3 * n := by
  have h1 := cd_sm_le (f := fun i => cd_ec (kd i)) (c := 3) n (fun i _ => (cd_ec_r (kd i)).2)
  have h2 := cd_sm_ge (f := fun i => cd_ec (kd i)) (c := 1) n (fun i _ => (cd_ec_r (kd i)).1)
  unfold cd_fs
  omega
theorem cd_fs_inj {kd : Nat → Int32} {b c k l : Nat} (hk : k < cd_ec (kd b)) (hl : l < cd_ec (kd c)) (h : cd_fs kd b + k = cd_fs kd c + l) : b = c ∧ k = l := by
  by_cases e : b = c
  · subst e
    exact ⟨rfl, by omega⟩
  · by_cases g : b < c
    · have := cd_fs_lt (kd := kd) g
      omega
    · have := cd_fs_lt (kd := kd) (b := c) (c := b) (by omega)
      omega
theorem cd_fs_c {kd kd' : Nat → Int32} {n : Nat} (h : ∀ i, i < n → kd i = kd' i) : cd_fs kd n = cd_fs kd' n := cd_sm_c n (fun i hi => by
  show cd_ec (kd i) = cd_ec (kd' i)
  rw [h i hi])
/-- X's and Y's own exit counts -/
theorem cd_xec {post : Int32 → Prop} {k : Int32} (hp : post (nI (cd_ec k))) : wpX_exitsOfKind post k := by
  unfold wpX_exitsOfKind
  unfold cd_ec at hp
  refine br_c (fun h => ?_) (fun h => br_c (fun h1 => ?_) (fun h1 => br_c (fun h5 => ?_) (fun h5 => ?_)))
  · rw [if_pos h] at hp; exact hp
  · rw [if_neg h, if_pos h1] at hp; exact hp
  · rw [if_neg h, if_neg h1, if_pos h5] at hp; exact hp
  · rw [if_neg h, if_neg h1, if_neg h5] at hp; exact hp
theorem cd_kr : ∀ k : Nat, k < 6 → (2 ≤ nI k → ((5 ≤ nI k → cd_ec (nI k) = 3) ∧ (¬ 5 ≤ nI k → cd_ec (nI k) = 2))) ∧ (¬ 2 ≤ nI k → cd_ec (nI k) = 1) := by
  decide +kernel
theorem cd_yec {post : Int32 → Prop} {k : Int32} (hk : ∃ j : Nat, j < 6 ∧ k = nI j) (hp : post (nI (cd_ec k))) : wpY_exitsOf post k := by
  obtain ⟨j, hj, rfl⟩ := hk
  have h := cd_kr j hj
  unfold wpY_exitsOf
  refine br_c (fun h2 => br_c (fun h5 => ?_) (fun h5 => ?_)) (fun h2 => ?_)
  · rw [(h.1 h2).1 h5] at hp; exact hp
  · rw [(h.1 h2).2 h5] at hp; exact hp
  · rw [h.2 h2] at hp; exact hp
/-- a loop whose arrays are a function of its counter -/
theorem cd_loop (W : Nat → Nat → Prop) (N : Nat) (hx : ∀ n, W (n + 1) N) (hs : ∀ n i, i < N → W n (i + 1) → W (n + 1) i) : ∃ n, W n 0 := by
  have H : ∀ d i, i + d = N → W (d + 1) i := by
    intro d
    induction d with
    | zero =>
      intro i hi
      have : i = N := by omega
      subst this
      exact hx 0
    | succ d ih =>
      intro i hi
      exact hs _ i (by omega) (ih (i + 1) (by omega))
  exact ⟨N + 1, H N 0 (by omega)⟩
theorem cd_loop1 (W : Nat → Nat → Prop) (i0 N : Nat) (h0 : i0 ≤ N) (hx : ∀ n, W (n + 1) N) (hs : ∀ n i, i0 ≤ i → i < N → W n (i + 1) → W (n + 1) i) : ∃ n, W n i0 := by
  have H : ∀ d i, i0 ≤ i → i + d = N → W (d + 1) i := by
    intro d
    induction d with
    | zero =>
      intro i _ hi
      have : i = N := by omega
      subst this
      exact hx 0
    | succ d ih =>
      intro i h1 hi
      exact hs _ i h1 (by omega) (ih (i + 1) (by omega) (by omega))
  exact ⟨N - i0 + 1, H (N - i0) i0 (Nat.le_refl _) (by omega)⟩
end
section
section
variable {x_blocks x_builtBlocks x_edges x_paths x_runX x_runY x_runDone : Int32} {x_ops x_operands x_kinds x_targets x_builtOps x_builtOperands x_builtKinds x_firstEdge x_edgeFrom x_edgeExit x_edgeTo x_edgeWeight x_inTree x_isBack x_beginsPaths x_firstPath x_pathsFrom x_pathsBefore x_counts x_dumped x_dumpKept x_looked x_joined x_met x_nextExit x_way : Nat → Int32} {y_made y_blocks y_edges y_paths y_many y_lastX y_lastY y_lastBlocks : Int32} {y_op y_number y_kind y_target y_from y_to y_exit y_weight y_firstEdge y_tree y_back y_row y_length y_gone y_done y_went y_cut y_kept y_mark y_way y_tried y_stack : Nat → Int32}
theorem cd_xzero {post : SX → Prop} (hp : post (x_blocks, x_builtBlocks, x_edges, x_paths, x_runX, x_runY, x_runDone, x_ops, x_operands, x_kinds, x_targets, x_builtOps, x_builtOperands, x_builtKinds, x_firstEdge, x_edgeFrom, x_edgeExit, x_edgeTo, x_edgeWeight, x_inTree, x_isBack, x_beginsPaths, x_firstPath, x_pathsFrom, x_pathsBefore, (cd_fo x_counts 0 350 (fun _ => 0)), x_dumped, x_dumpKept, x_looked, x_joined, x_met, x_nextExit, x_way)) : wpX_zeroCounts post (x_blocks, x_builtBlocks, x_edges, x_paths, x_runX, x_runY, x_runDone, x_ops, x_operands, x_kinds, x_targets, x_builtOps, x_builtOperands, x_builtKinds, x_firstEdge, x_edgeFrom, x_edgeExit, x_edgeTo, x_edgeWeight, x_inTree, x_isBack, x_beginsPaths, x_firstPath, x_pathsFrom, x_pathsBefore, x_counts, x_dumped, x_dumpKept, x_looked, x_joined, x_met, x_nextExit, x_way) :=
  cd_loop (fun n i => wX_zeroCounts_2 post x_blocks x_builtBlocks x_edges x_paths x_runX x_runY x_runDone n (nI i) x_ops x_operands x_kinds x_targets x_builtOps x_builtOperands x_builtKinds x_firstEdge x_edgeFrom x_edgeExit x_edgeTo x_edgeWeight x_inTree x_isBack x_beginsPaths x_firstPath x_pathsFrom x_pathsBefore (cd_fo x_counts 0 i (fun _ => 0)) x_dumped x_dumpKept x_looked x_joined x_met x_nextExit x_way) 350
    (fun n => pk_le 350 350 (fun _ => hp) (fun h => absurd h (by omega)))
    (fun n i hi hn => pk_le 350 i (fun h => absurd h (by omega)) (fun h => ⟨pk_in i 350 hi, nm_r (cd_fo_z (by omega) rfl) (nm_r (nI_1 i) hn)⟩))
theorem cd_xforget {post : SX → Prop} (hp : post (x_blocks, x_builtBlocks, x_edges, x_paths, x_runX, x_runY, x_runDone, x_ops, x_operands, x_kinds, x_targets, x_builtOps, x_builtOperands, x_builtKinds, x_firstEdge, x_edgeFrom, x_edgeExit, x_edgeTo, x_edgeWeight, x_inTree, x_isBack, x_beginsPaths, x_firstPath, x_pathsFrom, x_pathsBefore, (cd_fo x_counts 0 350 (fun _ => 0)), x_dumped, (cd_fo x_dumpKept 0 2 (fun _ => 0)), x_looked, x_joined, x_met, x_nextExit, x_way)) : wpX_forgetCounts post (x_blocks, x_builtBlocks, x_edges, x_paths, x_runX, x_runY, x_runDone, x_ops, x_operands, x_kinds, x_targets, x_builtOps, x_builtOperands, x_builtKinds, x_firstEdge, x_edgeFrom, x_edgeExit, x_edgeTo, x_edgeWeight, x_inTree, x_isBack, x_beginsPaths, x_firstPath, x_pathsFrom, x_pathsBefore, x_counts, x_dumped, x_dumpKept, x_looked, x_joined, x_met, x_nextExit, x_way) := by
  unfold wpX_forgetCounts
  refine cd_xzero ?_
  exact cd_loop (fun n i => wX_forgetCounts_6 post x_blocks x_builtBlocks x_edges x_paths x_runX x_runY x_runDone n (nI i) x_ops x_operands x_kinds x_targets x_builtOps x_builtOperands x_builtKinds x_firstEdge x_edgeFrom x_edgeExit x_edgeTo x_edgeWeight x_inTree x_isBack x_beginsPaths x_firstPath x_pathsFrom x_pathsBefore (cd_fo x_counts 0 350 (fun _ => 0)) x_dumped (cd_fo x_dumpKept 0 i (fun _ => 0)) x_looked x_joined x_met x_nextExit x_way) 2
    (fun n => pk_le 2 2 (fun _ => hp) (fun h => absurd h (by omega)))
    (fun n i hi hn => pk_le 2 i (fun h => absurd h (by omega)) (fun h => ⟨pk_in i 2 hi, nm_r (cd_fo_z (by omega) rfl) (nm_r (nI_1 i) hn)⟩))
theorem cd_xcopy {post : SX → Prop} {n : Nat} (hn : n ≤ 12) (hp : post ((nI n), (nI n), x_edges, x_paths, x_runX, x_runY, x_runDone, x_ops, x_operands, x_kinds, x_targets, (cd_fo x_builtOps 0 n x_ops), (cd_fo x_builtOperands 0 n x_operands), (cd_fo x_builtKinds 0 n x_kinds), x_firstEdge, x_edgeFrom, x_edgeExit, x_edgeTo, x_edgeWeight, x_inTree, x_isBack, x_beginsPaths, x_firstPath, x_pathsFrom, x_pathsBefore, x_counts, x_dumped, x_dumpKept, x_looked, x_joined, x_met, x_nextExit, x_way)) : wpX_copyBlocks post ((nI n), x_builtBlocks, x_edges, x_paths, x_runX, x_runY, x_runDone, x_ops, x_operands, x_kinds, x_targets, x_builtOps, x_builtOperands, x_builtKinds, x_firstEdge, x_edgeFrom, x_edgeExit, x_edgeTo, x_edgeWeight, x_inTree, x_isBack, x_beginsPaths, x_firstPath, x_pathsFrom, x_pathsBefore, x_counts, x_dumped, x_dumpKept, x_looked, x_joined, x_met, x_nextExit, x_way) :=
  cd_loop (fun m i => wX_copyBlocks_2 post (nI n) x_builtBlocks x_edges x_paths x_runX x_runY x_runDone m (nI i) x_ops x_operands x_kinds x_targets (cd_fo x_builtOps 0 i x_ops) (cd_fo x_builtOperands 0 i x_operands) (cd_fo x_builtKinds 0 i x_kinds) x_firstEdge x_edgeFrom x_edgeExit x_edgeTo x_edgeWeight x_inTree x_isBack x_beginsPaths x_firstPath x_pathsFrom x_pathsBefore x_counts x_dumped x_dumpKept x_looked x_joined x_met x_nextExit x_way) n
    (fun m => pk_le n n (fun _ => hp) (fun h => absurd h (by omega)))
    (fun m i hi hm => pk_le n i (fun h => absurd h (by omega)) (fun h => ⟨pk_in i 12 (by omega), pk_in i 12 (by omega), nm_r (cd_fo_z (by omega) (congrArg x_ops (cd_cl (by omega)))) ⟨pk_in i 12 (by omega), pk_in i 12 (by omega), nm_r (cd_fo_z (by omega) (congrArg x_operands (cd_cl (by omega)))) ⟨pk_in i 12 (by omega), pk_in i 12 (by omega), nm_r (cd_fo_z (by omega) (congrArg x_kinds (cd_cl (by omega)))) (nm_r (nI_1 i) hm)⟩⟩⟩))
theorem cd_yempty {post : SY → Prop} (hp : post (y_made, y_blocks, y_edges, y_paths, y_many, y_lastX, y_lastY, y_lastBlocks, y_op, y_number, y_kind, y_target, y_from, y_to, y_exit, y_weight, y_firstEdge, y_tree, y_back, y_row, y_length, (cd_fo y_gone 0 37 (fun _ => 0)), (cd_fo y_done 0 12 (fun _ => 0)), (cd_fo y_went 0 300 (fun _ => 0)), (upd y_cut 0 0), y_kept, y_mark, y_way, y_tried, y_stack)) : wpY_empty post (y_made, y_blocks, y_edges, y_paths, y_many, y_lastX, y_lastY, y_lastBlocks, y_op, y_number, y_kind, y_target, y_from, y_to, y_exit, y_weight, y_firstEdge, y_tree, y_back, y_row, y_length, y_gone, y_done, y_went, y_cut, y_kept, y_mark, y_way, y_tried, y_stack) :=
  cd_loop (fun n i => wY_empty_2 post y_made y_blocks y_edges y_paths y_many y_lastX y_lastY y_lastBlocks n (nI i) y_op y_number y_kind y_target y_from y_to y_exit y_weight y_firstEdge y_tree y_back y_row y_length (cd_fo y_gone 0 i (fun _ => 0)) y_done y_went y_cut y_kept y_mark y_way y_tried y_stack) 37
    (fun n => pk_le 37 37 (fun _ => 
      cd_loop (fun n i => wY_empty_23 post y_made y_blocks y_edges y_paths y_many y_lastX y_lastY y_lastBlocks n (nI i) y_op y_number y_kind y_target y_from y_to y_exit y_weight y_firstEdge y_tree y_back y_row y_length (cd_fo y_gone 0 37 (fun _ => 0)) (cd_fo y_done 0 i (fun _ => 0)) y_went y_cut y_kept y_mark y_way y_tried y_stack) 12
        (fun n => pk_le 12 12 (fun _ => 
          cd_loop (fun n i => wY_empty_44 post y_made y_blocks y_edges y_paths y_many y_lastX y_lastY y_lastBlocks n (nI i) y_op y_number y_kind y_target y_from y_to y_exit y_weight y_firstEdge y_tree y_back y_row y_length (cd_fo y_gone 0 37 (fun _ => 0)) (cd_fo y_done 0 12 (fun _ => 0)) (cd_fo y_went 0 i (fun _ => 0)) y_cut y_kept y_mark y_way y_tried y_stack) 300
            (fun n => pk_le 300 300 (fun _ => nm_e hp) (fun h => absurd h (by omega)))
            (fun n i hi hn => pk_le 300 i (fun h => absurd h (by omega)) (fun h => ⟨pk_in i 900 (by omega), nm_r (cd_fo_z (by omega) rfl) (nm_r (nI_1 i) hn)⟩)))
          (fun h => absurd h (by omega)))
        (fun n i hi hn => pk_le 12 i (fun h => absurd h (by omega)) (fun h => ⟨pk_in i 36 (by omega), nm_r (cd_fo_z (by omega) rfl) (nm_r (nI_1 i) hn)⟩)))
      (fun h => absurd h (by omega)))
    (fun n i hi hn => pk_le 37 i (fun h => absurd h (by omega)) (fun h => ⟨pk_in i 111 (by omega), nm_r (cd_fo_z (by omega) rfl) (nm_r (nI_1 i) hn)⟩))
end
end
section
/-- the blocks as they are being written -/
def cd_D (n : Nat) (ops operands kinds targets op number kind target : Nat → Int32) : Prop :=
  n ≤ 12 ∧ (∀ i, i < 12 → op i = ops i ∧ number i = operands i ∧ kind i = kinds i ∧ target (3 * i + 1) = targets (3 * i + 1) ∧ target (3 * i + 2) = targets (3 * i + 2)) ∧
  (∀ i, i < n → (∃ k : Nat, k < 6 ∧ kinds i = nI k) ∧ (kinds i = 0 → targets (3 * i) = -1) ∧ (kinds i ≠ 0 → target (3 * i) = targets (3 * i) ∧ ∀ k, k < cd_ec (kinds i) → ∃ t : Nat, t < 12 ∧ targets (3 * i + k) = nI t))
/-- the program that is built -/
def cd_B (nb ne : Nat) (bo bp bk fe fr to op number kind : Nat → Int32) : Prop :=
  nb ≤ 12 ∧ ((nb = 0 ∧ ne = 0) ∨ (0 < nb ∧ ne = cd_fs bk nb + 1)) ∧
  (∀ b, b < nb → op (12 + b) = bo b ∧ number (12 + b) = bp b ∧ kind (12 + b) = bk b ∧ (∃ k : Nat, k < 6 ∧ bk b = nI k) ∧ fe b = nI (cd_fs bk b)) ∧
  (∀ e, e < ne → (to e = -1 ∨ ∃ t : Nat, t < nb ∧ to e = nI t) ∧ (fr e = -1 ∨ ∃ t : Nat, t < nb ∧ fr e = nI t))
/-- the counts -/
def cd_C (mn : Int32) (cn gone done went cut : Nat → Int32) : Prop :=
  (∀ e, e < 37 → gone e = cn e) ∧ (∀ b, b < 12 → done b = cn (37 + b)) ∧ (mn = 0 → ∀ p, p < 300 → went p = cn (49 + p)) ∧ cut 0 = cn 349
/-- the dumps that are kept -/
def cd_K (mn : Int32) (ne : Nat) (dm dk gone done went cut : Nat → Int32) : Prop :=
  ∀ d, d < 2 → dk d ≠ 0 → 0 < ne ∧ (∀ e, e < 37 → gone (37 + 37 * d + e) = dm (350 * d + e)) ∧ (∀ b, b < 12 → done (12 + 12 * d + b) = dm (350 * d + (37 + b))) ∧ (mn = 0 → ∀ p, p < 300 → went (300 + 300 * d + p) = dm (350 * d + (49 + p))) ∧ cut (1 + d) = dm (350 * d + 349)
/-- an edge that ends a path -/
def cd_en (ib to : Nat → Int32) (e : Nat) : Prop := ib e ≠ 0 ∨ to e = -1
/-- how many paths go over exit k of block b -/
noncomputable def cd_wt (bk to ib : Nat → Int32) (G : Nat → Nat) (b k : Nat) : Nat := if ib (cd_fs bk b + k) = 0 ∧ ¬ to (cd_fs bk b + k) = -1 then G (to (cd_fs bk b + k)).toNatClampNeg else 1
/-- reached blocks, their ranks -/
def cd_PG (nb : Nat) (bk to ib : Nat → Int32) (L : Nat → Prop) (rk : Nat → Nat) : Prop :=
  L 0 ∧ ∀ b, b < nb → L b → rk b < nb ∧ ∀ k, k < cd_ec (bk b) → to (cd_fs bk b + k) = -1 ∨ ∃ t : Nat, t < nb ∧ to (cd_fs bk b + k) = nI t ∧ L t ∧ (ib (cd_fs bk b + k) = 0 → rk t < rk b)
/-- their numbers of paths -/
def cd_PN (nb : Nat) (bk to ib pf pb : Nat → Int32) (L : Nat → Prop) (rk G : Nat → Nat) : Prop :=
  ∀ b, b < nb → L b → pf b = nI (G b) ∧ G b = cd_sm (cd_wt bk to ib G b) (cd_ec (bk b)) ∧ G b ≤ 3 ^ (rk b + 1) ∧ ∀ k, k < cd_ec (bk b) → pb (cd_fs bk b + k) = nI (cd_sm (cd_wt bk to ib G b) k)
/-- the begins -/
def cd_PB (nb ne : Nat) (to ib bg : Nat → Int32) : Prop :=
  ∀ b, b < nb → (bg b ≠ 0 ↔ b = 0 ∨ ∃ e, e < ne ∧ ib e ≠ 0 ∧ to e = nI b)
/-- first numbers -/
noncomputable def cd_fp (bg : Nat → Int32) (G : Nat → Nat) (b : Nat) : Nat := cd_sm (fun c => if bg c = 0 then 0 else G c) b
/-- a path from block b -/
def cd_vp (bk to ib : Nat → Int32) : Nat → List Nat → Prop
  | _, [] => False
  | b, e :: l => (∃ k, k < cd_ec (bk b) ∧ e = cd_fs bk b + k) ∧ ((cd_en ib to e ∧ l = []) ∨ (¬ cd_en ib to e ∧ cd_vp bk to ib (to e).toNatClampNeg l))
/-- its number -/
def cd_es (pb : Nat → Int32) : List Nat → Nat
  | [] => 0
  | e :: l => (pb e).toNatClampNeg + cd_es pb l
/-- row p of the reference holds path l -/
def cd_rw (row len : Nat → Int32) (p : Nat) (l : List Nat) : Prop :=
  len p = nI l.length ∧ ∀ i (h : i < l.length), row (12 * p + i) = nI l[i]
def cd_PR (nb ny : Nat) (bk to ib pb bg row len : Nat → Int32) (G : Nat → Nat) : Prop :=
  ∀ p, p < ny → ∃ b l, b < nb ∧ bg b ≠ 0 ∧ cd_vp bk to ib b l ∧ cd_fp bg G b + cd_es pb l = p ∧ cd_rw row len p l
def cd_P (nb ne np : Nat) (bk to ib pf pb bg fp : Nat → Int32) (yp ym : Int32) (row len : Nat → Int32) : Prop :=
  (nb = 0 → np = 0) ∧ (0 < nb → ∃ (L : Nat → Prop) (rk G : Nat → Nat), cd_PG nb bk to ib L rk ∧ cd_PN nb bk to ib pf pb L rk G ∧ cd_PB nb ne to ib bg ∧
    (∀ b, b < nb → bg b ≠ 0 → L b) ∧ (∀ b, b < nb → fp b = nI (cd_fp bg G b)) ∧ np = cd_fp bg G nb ∧
    ∃ ny, yp = nI ny ∧ ((ym = 0 ∧ ny = np ∧ np ≤ 300) ∨ (¬ ym = 0 ∧ ny = 300 ∧ 300 < np)) ∧ cd_PR nb ny bk to ib pb bg row len G)
/-- the relation -/
def i_Rel (_ : Nat) (u : SX) (v : SY) : Prop := match u, v with
  | (x_blocks, x_builtBlocks, x_edges, x_paths, x_runX, x_runY, x_runDone, x_ops, x_operands, x_kinds, x_targets, x_builtOps, x_builtOperands, x_builtKinds, x_firstEdge, x_edgeFrom, x_edgeExit, x_edgeTo, x_edgeWeight, x_inTree, x_isBack, x_beginsPaths, x_firstPath, x_pathsFrom, x_pathsBefore, x_counts, x_dumped, x_dumpKept, x_looked, x_joined, x_met, x_nextExit, x_way), (y_made, y_blocks, y_edges, y_paths, y_many, y_lastX, y_lastY, y_lastBlocks, y_op, y_number, y_kind, y_target, y_from, y_to, y_exit, y_weight, y_firstEdge, y_tree, y_back, y_row, y_length, y_gone, y_done, y_went, y_cut, y_kept, y_mark, y_way, y_tried, y_stack) => ∃ n nb ne np : Nat, x_blocks = nI n ∧ y_made = nI n ∧ x_builtBlocks = nI nb ∧ y_blocks = nI nb ∧ x_edges = nI ne ∧ y_edges = nI ne ∧ x_paths = nI np ∧ x_runX = y_lastX ∧ x_runY = y_lastY ∧ x_runDone = y_lastBlocks ∧ x_edgeFrom = y_from ∧ x_edgeTo = y_to ∧ x_edgeExit = y_exit ∧ x_edgeWeight = y_weight ∧ x_firstEdge = y_firstEdge ∧ x_inTree = y_tree ∧ x_isBack = y_back ∧ x_dumpKept = y_kept ∧
    cd_D n x_ops x_operands x_kinds x_targets y_op y_number y_kind y_target ∧
    cd_B nb ne x_builtOps x_builtOperands x_builtKinds x_firstEdge x_edgeFrom x_edgeTo y_op y_number y_kind ∧
    cd_C y_many x_counts y_gone y_done y_went y_cut ∧
    cd_K y_many ne x_dumped x_dumpKept y_gone y_done y_went y_cut ∧
    cd_P nb ne np x_builtKinds x_edgeTo x_isBack x_pathsFrom x_pathsBefore x_beginsPaths x_firstPath y_paths y_many y_row y_length
section
variable {x_blocks x_builtBlocks x_edges x_paths x_runX x_runY x_runDone : Int32} {x_ops x_operands x_kinds x_targets x_builtOps x_builtOperands x_builtKinds x_firstEdge x_edgeFrom x_edgeExit x_edgeTo x_edgeWeight x_inTree x_isBack x_beginsPaths x_firstPath x_pathsFrom x_pathsBefore x_counts x_dumped x_dumpKept x_looked x_joined x_met x_nextExit x_way : Nat → Int32} {y_made y_blocks y_edges y_paths y_many y_lastX y_lastY y_lastBlocks : Int32} {y_op y_number y_kind y_target y_from y_to y_exit y_weight y_firstEdge y_tree y_back y_row y_length y_gone y_done y_went y_cut y_kept y_mark y_way y_tried y_stack : Nat → Int32}
theorem cd_mk {k : Nat} (n nb ne np : Nat)
    (hD : cd_D n x_ops x_operands x_kinds x_targets y_op y_number y_kind y_target)
    (hB : cd_B nb ne x_builtOps x_builtOperands x_builtKinds x_firstEdge x_edgeFrom x_edgeTo y_op y_number y_kind)
    (hC : cd_C y_many x_counts y_gone y_done y_went y_cut)
    (hK : cd_K y_many ne x_dumped x_dumpKept y_gone y_done y_went y_cut)
    (hP : cd_P nb ne np x_builtKinds x_edgeTo x_isBack x_pathsFrom x_pathsBefore x_beginsPaths x_firstPath y_paths y_many y_row y_length) :
    i_Rel k ((nI n), (nI nb), (nI ne), (nI np), x_runX, x_runY, x_runDone, x_ops, x_operands, x_kinds, x_targets, x_builtOps, x_builtOperands, x_builtKinds, x_firstEdge, x_edgeFrom, x_edgeExit, x_edgeTo, x_edgeWeight, x_inTree, x_isBack, x_beginsPaths, x_firstPath, x_pathsFrom, x_pathsBefore, x_counts, x_dumped, x_dumpKept, x_looked, x_joined, x_met, x_nextExit, x_way) ((nI n), (nI nb), (nI ne), y_paths, y_many, x_runX, x_runY, x_runDone, y_op, y_number, y_kind, y_target, x_edgeFrom, x_edgeTo, x_edgeExit, x_edgeWeight, x_firstEdge, x_inTree, x_isBack, y_row, y_length, y_gone, y_done, y_went, y_cut, x_dumpKept, y_mark, y_way, y_tried, y_stack) :=
  ⟨n, nb, ne, np, rfl, rfl, rfl, rfl, rfl, rfl, rfl, rfl, rfl, rfl, rfl, rfl, rfl, rfl, rfl, rfl, rfl, rfl, hD, hB, hC, hK, hP⟩
end
theorem i_up {k : Nat} {u : SX} {v : SY} (h : i_Rel k u v) : i_Rel (k + 6) u v := h
theorem i_vc0 : wpX_init (fun u => wpY_init (fun v => i_Rel 0 u v)) := by
  refine ⟨0, 0, 0, 0, rfl, rfl, rfl, rfl, rfl, rfl, rfl, rfl, rfl, rfl, rfl, rfl, rfl, rfl, rfl, rfl, rfl, rfl, ?_, ?_, ?_, ?_, ?_⟩
  · exact ⟨by omega, fun i hi => ⟨rfl, rfl, rfl, rfl, rfl⟩, fun i hi => absurd hi (by omega)⟩
  · exact ⟨by omega, Or.inl ⟨rfl, rfl⟩, fun i hi => absurd hi (by omega), fun i hi => absurd hi (by omega)⟩
  · exact ⟨fun _ _ => rfl, fun _ _ => rfl, fun _ _ _ => rfl, rfl⟩
  · exact fun d hd h => absurd rfl h
  · exact ⟨fun _ => rfl, fun h => absurd h (by omega)⟩
/-- what the relation says, taken apart -/
theorem cd_ne {nb ne : Nat} {bo bp bk fe fr to op number kind : Nat → Int32} (h : cd_B nb ne bo bp bk fe fr to op number kind) : nb ≤ 12 ∧ ne ≤ 37 ∧ (nb = 0 ↔ ne = 0) := by
  obtain ⟨h1, h2, h3⟩ := h
  have := cd_fs_b bk nb
  omega
end
section
theorem cd_in01 {post : Int32 → Prop} {x : Int32} {a n : Nat} {y : Int32} (hy : y = nI n - 1) (hn : n < 1000000) (h0 : x < 0 → post 0) (h1 : ∀ j, j < n → x = nI j → post 1) (h2 : ∀ j, n ≤ j → j < 2147483648 → x = nI j → post 0) : wpY_in post x 0 y := by
  unfold wpY_in
  refine br_c h0 (fun h => ?_)
  obtain ⟨j, hj, rfl⟩ := nI_of h
  have hj' : j < 2147483648 := by omega
  subst hy
  by_cases hz : n = 0
  · subst hz
    refine br_t ?_ (h2 j (by omega) hj' rfl)
    rw [Int32.lt_iff_toInt_lt, nI_toInt hj]
    have : (nI 0 - 1).toInt = -1 := by decide
    rw [this]; omega
  · obtain ⟨m, rfl⟩ : ∃ m, n = m + 1 := ⟨n - 1, by omega⟩
    rw [nI_pred]
    exact pk_lt m j (fun h => h2 j (by omega) hj' rfl) (fun h => h1 j (by omega) rfl)
theorem i_vc_clear {k : Nat} {u : SX} {v : SY} (I : i_Rel k u v) (hk : k + 6 ≤ 3072) : wpX_clear (fun r u' => wpY_clear (fun r' v' => r' = r ∧ i_Rel (k + 6) u' v') v) u := by
  obtain ⟨x_blocks, x_builtBlocks, x_edges, x_paths, x_runX, x_runY, x_runDone, x_ops, x_operands, x_kinds, x_targets, x_builtOps, x_builtOperands, x_builtKinds, x_firstEdge, x_edgeFrom, x_edgeExit, x_edgeTo, x_edgeWeight, x_inTree, x_isBack, x_beginsPaths, x_firstPath, x_pathsFrom, x_pathsBefore, x_counts, x_dumped, x_dumpKept, x_looked, x_joined, x_met, x_nextExit, x_way⟩ := u
  obtain ⟨y_made, y_blocks, y_edges, y_paths, y_many, y_lastX, y_lastY, y_lastBlocks, y_op, y_number, y_kind, y_target, y_from, y_to, y_exit, y_weight, y_firstEdge, y_tree, y_back, y_row, y_length, y_gone, y_done, y_went, y_cut, y_kept, y_mark, y_way, y_tried, y_stack⟩ := v
  obtain ⟨n, nb, ne, np, rfl, rfl, rfl, rfl, rfl, rfl, rfl, rfl, rfl, rfl, rfl, rfl, rfl, rfl, rfl, rfl, rfl, rfl, hD, hB, hC, hK, hP⟩ := I
  exact ⟨rfl, cd_mk 0 nb ne np ⟨by omega, hD.2.1, fun i hi => absurd hi (by omega)⟩ hB hC hK hP⟩
theorem i_vc_last {k : Nat} {u : SX} {v : SY} (I : i_Rel k u v) (hk : k + 6 ≤ 3072) (v1 : Int32) : wpX_last (fun r => wpY_last (fun r' => r' = r ∧ i_Rel (k + 6) u v) v v1) u v1 := by
  have I' := i_up I
  obtain ⟨x_blocks, x_builtBlocks, x_edges, x_paths, x_runX, x_runY, x_runDone, x_ops, x_operands, x_kinds, x_targets, x_builtOps, x_builtOperands, x_builtKinds, x_firstEdge, x_edgeFrom, x_edgeExit, x_edgeTo, x_edgeWeight, x_inTree, x_isBack, x_beginsPaths, x_firstPath, x_pathsFrom, x_pathsBefore, x_counts, x_dumped, x_dumpKept, x_looked, x_joined, x_met, x_nextExit, x_way⟩ := u
  obtain ⟨y_made, y_blocks, y_edges, y_paths, y_many, y_lastX, y_lastY, y_lastBlocks, y_op, y_number, y_kind, y_target, y_from, y_to, y_exit, y_weight, y_firstEdge, y_tree, y_back, y_row, y_length, y_gone, y_done, y_went, y_cut, y_kept, y_mark, y_way, y_tried, y_stack⟩ := v
  obtain ⟨n, nb, ne, np, rfl, rfl, rfl, rfl, rfl, rfl, rfl, rfl, rfl, rfl, rfl, rfl, rfl, rfl, rfl, rfl, rfl, rfl, hD, hB, hC, hK, hP⟩ := I
  refine br_c (fun h => ?_) (fun h => br_c (fun h2 => ?_) (fun h2 => br_c (fun h0 => ?_) (fun h0 => br_c (fun h1 => ?_) (fun h1 => br_c (fun h3 => ?_) (fun h3 => trivial)))))
  · refine br_f ?_ (br_f ?_ (br_f ?_ ⟨rfl, I'⟩))
    · intro e; subst e; exact absurd h (by decide)
    · intro e; subst e; exact absurd h (by decide)
    · intro e; subst e; exact absurd h (by decide)
  · refine br_f ?_ (br_f ?_ (br_f ?_ ⟨rfl, I'⟩))
    · intro e; subst e; exact absurd h2 (by decide)
    · intro e; subst e; exact absurd h2 (by decide)
    · intro e; subst e; exact absurd h2 (by decide)
  · exact br_t h0 ⟨rfl, I'⟩
  · exact br_f h0 (br_t h1 ⟨rfl, I'⟩)
  · exact br_f h0 (br_f h1 (br_t h3 ⟨rfl, I'⟩))
theorem i_vc_block {k : Nat} {u : SX} {v : SY} (I : i_Rel k u v) (hk : k + 6 ≤ 3072) (v1 : Int32) (v2 : Int32) : wpX_block (fun r u' => wpY_block (fun r' v' => r' = r ∧ i_Rel (k + 6) u' v') v v1 v2) u v1 v2 := by
  have I' := i_up I
  obtain ⟨x_blocks, x_builtBlocks, x_edges, x_paths, x_runX, x_runY, x_runDone, x_ops, x_operands, x_kinds, x_targets, x_builtOps, x_builtOperands, x_builtKinds, x_firstEdge, x_edgeFrom, x_edgeExit, x_edgeTo, x_edgeWeight, x_inTree, x_isBack, x_beginsPaths, x_firstPath, x_pathsFrom, x_pathsBefore, x_counts, x_dumped, x_dumpKept, x_looked, x_joined, x_met, x_nextExit, x_way⟩ := u
  obtain ⟨y_made, y_blocks, y_edges, y_paths, y_many, y_lastX, y_lastY, y_lastBlocks, y_op, y_number, y_kind, y_target, y_from, y_to, y_exit, y_weight, y_firstEdge, y_tree, y_back, y_row, y_length, y_gone, y_done, y_went, y_cut, y_kept, y_mark, y_way, y_tried, y_stack⟩ := v
  obtain ⟨n, nb, ne, np, rfl, rfl, rfl, rfl, rfl, rfl, rfl, rfl, rfl, rfl, rfl, rfl, rfl, rfl, rfl, rfl, rfl, rfl, hD, hB, hC, hK, hP⟩ := I
  have hn : n ≤ 12 := hD.1
  unfold wpX_block wpY_block
  dsimp only
  refine br_c (fun h => ?_) (fun h => ?_)
  · exact br_t h (br_t rfl ⟨rfl, I'⟩)
  · refine br_c (fun h8 => ?_) (fun h8 => ?_)
    · have : (7 : Int32) < v1 := by
        rw [Int32.lt_iff_toInt_lt]; rw [Int32.le_iff_toInt_le] at h8
        have e1 : (7 : Int32).toInt = 7 := by decide
        have e2 : (8 : Int32).toInt = 8 := by decide
        omega
      exact br_f h (br_t this (br_t rfl ⟨rfl, I'⟩))
    · have : ¬ (7 : Int32) < v1 := by
        rw [Int32.lt_iff_toInt_lt]; rw [Int32.le_iff_toInt_le] at h8
        have e1 : (7 : Int32).toInt = 7 := by decide
        have e2 : (8 : Int32).toInt = 8 := by decide
        omega
      refine pk_lt n 12 (fun hl => ?_) (fun hl => ?_)
      · have c1 := cd_cl (n := n) (by omega)
        have c2 : nI n * 3 = nI (3 * n) := by rw [show (3 : Int32) = nI 3 from rfl, pk_mul, Nat.mul_comm]
        refine ⟨pk_in n 12 hl, nm_r (congrArg (fun q => upd x_ops q v1) c1) ⟨pk_in n 12 hl, nm_r (congrArg (fun q => upd x_operands q v2) c1) ⟨pk_in n 12 hl, nm_r (congrArg (fun q => upd x_kinds q 0) c1) ⟨pk_in (3 * n) 36 (by omega) c2, nm_r (congrArg (fun q => upd x_targets q (-1)) (pk_cl (3 * n) c2)) (nm_r (nI_1 n) ?_)⟩⟩⟩⟩
        refine br_f h (br_f this (br_f (by decide) (pk_eq n 12 (fun e => absurd e (by omega)) (fun _ => ?_))))
        refine ⟨pk_in n 24 (by omega), nm_r (congrArg (fun q => upd y_op q v1) c1) ⟨pk_in n 24 (by omega), nm_r (congrArg (fun q => upd y_number q v2) c1) ⟨pk_in n 24 (by omega), nm_r (congrArg (fun q => upd y_kind q 0) c1) (nm_r (nI_1 n) ⟨nI_pred n, ?_⟩)⟩⟩⟩
        refine cd_mk (n + 1) nb ne np ?_ ?_ hC hK hP
        · refine ⟨by omega, fun i hi => ?_, fun i hi => ?_⟩
          · obtain ⟨a1, a2, a3, a4, a5⟩ := hD.2.1 i hi
            refine ⟨?_, ?_, ?_, ?_, ?_⟩
            · unfold upd; split
              · rfl
              · exact a1
            · unfold upd; split
              · rfl
              · exact a2
            · unfold upd; split
              · rfl
              · exact a3
            · rw [pk_un (by omega)]; exact a4
            · rw [pk_un (by omega)]; exact a5
          · by_cases e : i = n
            · subst e
              refine ⟨⟨0, by omega, pk_us⟩, fun _ => pk_us, fun z => absurd pk_us z⟩
            · obtain ⟨b1, b2, b3⟩ := hD.2.2 i (by omega)
              rw [pk_un e, pk_un (show 3 * i ≠ 3 * n by omega)]
              refine ⟨b1, b2, fun z => ⟨(b3 z).1, fun k hk => ?_⟩⟩
              have := cd_ec_r (x_kinds i)
              rw [pk_un (by omega)]
              exact (b3 z).2 k hk
        · obtain ⟨a1, a2, a3, a4⟩ := hB
          refine ⟨a1, a2, fun b hb => ?_, a4⟩
          rw [pk_un (by omega), pk_un (by omega), pk_un (by omega)]
          exact a3 b hb
      · have e : n = 12 := by omega
        subst e
        exact br_f h (br_f this (br_f (by decide) (br_t rfl ⟨rfl, I'⟩)))
theorem i_vc_count {k : Nat} {u : SX} {v : SY} (I : i_Rel k u v) (hk : k + 6 ≤ 3072) (v1 : Int32) : wpX_count (fun r => wpY_count (fun r' => r' = r ∧ i_Rel (k + 6) u v) v v1) u v1 := by
  have I' := i_up I
  obtain ⟨x_blocks, x_builtBlocks, x_edges, x_paths, x_runX, x_runY, x_runDone, x_ops, x_operands, x_kinds, x_targets, x_builtOps, x_builtOperands, x_builtKinds, x_firstEdge, x_edgeFrom, x_edgeExit, x_edgeTo, x_edgeWeight, x_inTree, x_isBack, x_beginsPaths, x_firstPath, x_pathsFrom, x_pathsBefore, x_counts, x_dumped, x_dumpKept, x_looked, x_joined, x_met, x_nextExit, x_way⟩ := u
  obtain ⟨y_made, y_blocks, y_edges, y_paths, y_many, y_lastX, y_lastY, y_lastBlocks, y_op, y_number, y_kind, y_target, y_from, y_to, y_exit, y_weight, y_firstEdge, y_tree, y_back, y_row, y_length, y_gone, y_done, y_went, y_cut, y_kept, y_mark, y_way, y_tried, y_stack⟩ := v
  obtain ⟨n, nb, ne, np, rfl, rfl, rfl, rfl, rfl, rfl, rfl, rfl, rfl, rfl, rfl, rfl, rfl, rfl, rfl, rfl, rfl, rfl, hD, hB, hC, hK, hP⟩ := I
  have hne := cd_ne hB
  unfold wpX_count wpX_isEdge wpY_count
  dsimp only
  refine br_c (fun h => ?_) (fun h => ?_)
  · refine br_t rfl (cd_in01 (a := 0) rfl (by omega) (fun _ => br_t rfl ⟨rfl, I'⟩) (fun j hj e => ?_) (fun _ _ _ _ => br_t rfl ⟨rfl, I'⟩))
    subst e; exact absurd h (nI_pos (by omega))
  · obtain ⟨j, hj, rfl⟩ := nI_of h
    refine pk_le ne j (fun h1 => ?_) (fun h1 => ?_)
    · refine br_t rfl (cd_in01 (a := 0) rfl (by omega) (fun _ => br_t rfl ⟨rfl, I'⟩) (fun i hi e => ?_) (fun _ _ _ _ => br_t rfl ⟨rfl, I'⟩))
      rw [nI_eq hj (by omega)] at e; omega
    · refine br_f (by decide) ⟨pk_in j 350 (by omega), cd_in01 (a := 0) rfl (by omega) (fun z => absurd z h) (fun i hi e => br_f (by decide) ⟨pk_in j 111 (by omega), ?_, I'⟩) (fun i hi hi2 e => ?_)⟩
      · rw [nI_clamp hj]; exact hC.1 j (by omega)
      · rw [nI_eq hj (by omega)] at e; omega
theorem i_vc_done {k : Nat} {u : SX} {v : SY} (I : i_Rel k u v) (hk : k + 6 ≤ 3072) (v1 : Int32) : wpX_done (fun r => wpY_done (fun r' => r' = r ∧ i_Rel (k + 6) u v) v v1) u v1 := by
  have I' := i_up I
  obtain ⟨x_blocks, x_builtBlocks, x_edges, x_paths, x_runX, x_runY, x_runDone, x_ops, x_operands, x_kinds, x_targets, x_builtOps, x_builtOperands, x_builtKinds, x_firstEdge, x_edgeFrom, x_edgeExit, x_edgeTo, x_edgeWeight, x_inTree, x_isBack, x_beginsPaths, x_firstPath, x_pathsFrom, x_pathsBefore, x_counts, x_dumped, x_dumpKept, x_looked, x_joined, x_met, x_nextExit, x_way⟩ := u
  obtain ⟨y_made, y_blocks, y_edges, y_paths, y_many, y_lastX, y_lastY, y_lastBlocks, y_op, y_number, y_kind, y_target, y_from, y_to, y_exit, y_weight, y_firstEdge, y_tree, y_back, y_row, y_length, y_gone, y_done, y_went, y_cut, y_kept, y_mark, y_way, y_tried, y_stack⟩ := v
  obtain ⟨n, nb, ne, np, rfl, rfl, rfl, rfl, rfl, rfl, rfl, rfl, rfl, rfl, rfl, rfl, rfl, rfl, rfl, rfl, rfl, rfl, hD, hB, hC, hK, hP⟩ := I
  have hne := cd_ne hB
  unfold wpX_done wpY_done
  dsimp only
  refine br_c (fun h => ?_) (fun h => ?_)
  · refine pk_le ne 0 (fun _ => ⟨rfl, I'⟩) (fun _ => ?_)
    refine cd_in01 (a := 0) rfl (by omega) (fun _ => br_t rfl ⟨rfl, I'⟩) (fun j hj e => ?_) (fun _ _ _ _ => br_t rfl ⟨rfl, I'⟩)
    subst e; exact absurd h (nI_pos (by omega))
  · obtain ⟨j, hj, rfl⟩ := nI_of h
    refine pk_lt j nb (fun h1 => ?_) (fun h1 => ?_)
    · have c : (37 : Int32) + nI j = nI (37 + j) := nI_add 37 j
      refine ⟨pk_in (37 + j) 350 (by omega) c, pk_le ne 0 (fun z => absurd z (by omega)) (fun _ => cd_in01 (a := 0) rfl (by omega) (fun z => absurd z h) (fun i hi e => br_f (by decide) ⟨pk_in j 36 (by omega), ?_, I'⟩) (fun i hi hi2 e => ?_))⟩
      · rw [c, nI_clamp hj, cd_cl (by omega)]; exact hC.2.1 j (by omega)
      · rw [nI_eq hj (by omega)] at e; omega
    · refine pk_le ne 0 (fun _ => ⟨rfl, I'⟩) (fun _ => ?_)
      refine cd_in01 (a := 0) rfl (by omega) (fun _ => br_t rfl ⟨rfl, I'⟩) (fun i hi e => ?_) (fun _ _ _ _ => br_t rfl ⟨rfl, I'⟩)
      rw [nI_eq hj (by omega)] at e; omega
end
section
theorem cd_may {post : Int32 → Prop} {x : Int32} (h0 : (∀ t : Nat, t < 12 → ¬ x = nI t) → post 0) (h1 : ∀ t : Nat, t < 12 → x = nI t → post 1) : wpX_mayBeTarget post x := by
  unfold wpX_mayBeTarget
  refine br_c (fun h => ?_) (fun h => ?_)
  · refine h0 (fun t ht e => ?_)
    subst e; exact absurd h (nI_pos (by omega))
  · obtain ⟨j, hj, rfl⟩ := nI_of h
    refine pk_le 12 j (fun h1 => ?_) (fun h2 => h1 j (by omega) rfl)
    refine h0 (fun t ht e => ?_)
    rw [nI_eq hj (by omega)] at e; omega
theorem cd_yin {post : Int32 → Prop} {x : Int32} {y : Int32} {n : Nat} (hy : y = nI n - 1) (hn : n < 1000000) (h0 : (∀ t : Nat, t < n → ¬ x = nI t) → post 0) (h1 : ∀ t : Nat, t < n → x = nI t → post 1) : wpY_in post x 0 y := by
  refine cd_in01 (a := 0) hy hn (fun h => h0 (fun t ht e => ?_)) h1 (fun j hj hj2 e => h0 (fun t ht e2 => ?_))
  · subst e; exact absurd h (nI_pos (by omega))
  · rw [e, nI_eq (by omega) (by omega)] at e2; omega
section
variable {x_blocks x_builtBlocks x_edges x_paths x_runX x_runY x_runDone : Int32} {x_ops x_operands x_kinds x_targets x_builtOps x_builtOperands x_builtKinds x_firstEdge x_edgeFrom x_edgeExit x_edgeTo x_edgeWeight x_inTree x_isBack x_beginsPaths x_firstPath x_pathsFrom x_pathsBefore x_counts x_dumped x_dumpKept x_looked x_joined x_met x_nextExit x_way : Nat → Int32} {y_made y_blocks y_edges y_paths y_many y_lastX y_lastY y_lastBlocks : Int32} {y_op y_number y_kind y_target y_from y_to y_exit y_weight y_firstEdge y_tree y_back y_row y_length y_gone y_done y_went y_cut y_kept y_mark y_way y_tried y_stack : Nat → Int32}
/-- X's exits from the point where the number of targets is known -/
theorem cd_xex {post : Int32 → SX → Prop} {b used kd : Nat} {kk first second third : Int32} (hb : b < 12) (hu : used ≤ 3) (hk : kk = nI kd) (hkd : kd < 6)
    (h0 : ¬ ((0 < used → ∃ t : Nat, t < 12 ∧ first = nI t) ∧ (1 < used → ∃ t : Nat, t < 12 ∧ second = nI t) ∧ (2 < used → ∃ t : Nat, t < 12 ∧ third = nI t)) → post 0 (x_blocks, x_builtBlocks, x_edges, x_paths, x_runX, x_runY, x_runDone, x_ops, x_operands, x_kinds, x_targets, x_builtOps, x_builtOperands, x_builtKinds, x_firstEdge, x_edgeFrom, x_edgeExit, x_edgeTo, x_edgeWeight, x_inTree, x_isBack, x_beginsPaths, x_firstPath, x_pathsFrom, x_pathsBefore, x_counts, x_dumped, x_dumpKept, x_looked, x_joined, x_met, x_nextExit, x_way))
    (h1 : (0 < used → ∃ t : Nat, t < 12 ∧ first = nI t) → (1 < used → ∃ t : Nat, t < 12 ∧ second = nI t) → (2 < used → ∃ t : Nat, t < 12 ∧ third = nI t) → post 1 (x_blocks, x_builtBlocks, x_edges, x_paths, x_runX, x_runY, x_runDone, x_ops, x_operands, (upd x_kinds b kk), (upd (upd (upd x_targets (3 * b) (if kk = 0 then -1 else first)) (3 * b + 1) second) (3 * b + 2) third), x_builtOps, x_builtOperands, x_builtKinds, x_firstEdge, x_edgeFrom, x_edgeExit, x_edgeTo, x_edgeWeight, x_inTree, x_isBack, x_beginsPaths, x_firstPath, x_pathsFrom, x_pathsBefore, x_counts, x_dumped, x_dumpKept, x_looked, x_joined, x_met, x_nextExit, x_way)) :
    wX_exits_35 post (nI b) kk first second third (nI used) x_blocks x_builtBlocks x_edges x_paths x_runX x_runY x_runDone x_ops x_operands x_kinds x_targets x_builtOps x_builtOperands x_builtKinds x_firstEdge x_edgeFrom x_edgeExit x_edgeTo x_edgeWeight x_inTree x_isBack x_beginsPaths x_firstPath x_pathsFrom x_pathsBefore x_counts x_dumped x_dumpKept x_looked x_joined x_met x_nextExit x_way := by
  have c0 : nI b * 3 = nI (3 * b) := by rw [show (3 : Int32) = nI 3 from rfl, pk_mul, Nat.mul_comm]
  have c1 : nI (3 * b) + 1 = nI (3 * b + 1) := nI_1 _
  have c2 : nI (3 * b) + 2 = nI (3 * b + 2) := nI_add _ 2
  have H82 : (¬ ((0 < used → ∃ t : Nat, t < 12 ∧ first = nI t) ∧ (1 < used → ∃ t : Nat, t < 12 ∧ second = nI t) ∧ (2 < used → ∃ t : Nat, t < 12 ∧ third = nI t))) → wX_exits_82 post (nI b) kk first second third x_blocks x_builtBlocks x_edges x_paths x_runX x_runY x_runDone x_ops x_operands x_kinds x_targets x_builtOps x_builtOperands x_builtKinds x_firstEdge x_edgeFrom x_edgeExit x_edgeTo x_edgeWeight x_inTree x_isBack x_beginsPaths x_firstPath x_pathsFrom x_pathsBefore x_counts x_dumped x_dumpKept x_looked x_joined x_met x_nextExit x_way := fun h => br_t rfl (h0 h)
  have H119 : ∀ z : Int32, (0 < used → ∃ t : Nat, t < 12 ∧ first = nI t) → (1 < used → ∃ t : Nat, t < 12 ∧ second = nI t) → (2 < used → ∃ t : Nat, t < 12 ∧ third = nI t) → z = (if kk = 0 then -1 else first) → wX_exits_119 post second third (nI (3 * b)) z (nI (3 * b)) x_blocks x_builtBlocks x_edges x_paths x_runX x_runY x_runDone x_ops x_operands (upd x_kinds b kk) x_targets x_builtOps x_builtOperands x_builtKinds x_firstEdge x_edgeFrom x_edgeExit x_edgeTo x_edgeWeight x_inTree x_isBack x_beginsPaths x_firstPath x_pathsFrom x_pathsBefore x_counts x_dumped x_dumpKept x_looked x_joined x_met x_nextExit x_way := by
    intro z a1 a2 a3 hz
    subst hz
    exact ⟨pk_in (3 * b) 36 (by omega), nm_r (congrArg (fun q => upd x_targets q _) (cd_cl (by omega))) ⟨pk_in (3 * b + 1) 36 (by omega) c1, nm_r (congrArg (fun q => upd _ q _) (pk_cl (3 * b + 1) c1)) ⟨pk_in (3 * b + 2) 36 (by omega) c2, nm_r (congrArg (fun q => upd _ q _) (pk_cl (3 * b + 2) c2)) (h1 a1 a2 a3)⟩⟩⟩
  have H78 : (0 < used → ∃ t : Nat, t < 12 ∧ first = nI t) → (1 < used → ∃ t : Nat, t < 12 ∧ second = nI t) → (2 < used → ∃ t : Nat, t < 12 ∧ third = nI t) → wX_exits_78 post (nI b) kk first second third x_blocks x_builtBlocks x_edges x_paths x_runX x_runY x_runDone x_ops x_operands x_kinds x_targets x_builtOps x_builtOperands x_builtKinds x_firstEdge x_edgeFrom x_edgeExit x_edgeTo x_edgeWeight x_inTree x_isBack x_beginsPaths x_firstPath x_pathsFrom x_pathsBefore x_counts x_dumped x_dumpKept x_looked x_joined x_met x_nextExit x_way := by
    intro a1 a2 a3
    refine br_f (by decide) (nm_r c0 ⟨pk_in b 12 hb, nm_r (congrArg (fun q => upd x_kinds q kk) (cd_cl (by omega))) (br_c (fun hz => ?_) (fun hz => ?_))⟩)
    · exact H119 _ a1 a2 a3 (by rw [if_pos hz])
    · exact H119 _ a1 a2 a3 (by rw [if_neg hz])
  refine pk_lt used 1 (fun u1 => ?_) (fun u1 => ?_)
  · refine pk_lt used 2 (fun u2 => ?_) (fun u2 => absurd u2 (by omega))
    refine pk_lt used 3 (fun u3 => ?_) (fun u3 => absurd u3 (by omega))
    exact H78 (fun h => absurd h (by omega)) (fun h => absurd h (by omega)) (fun h => absurd h (by omega))
  · refine cd_may (fun hn => br_t rfl (H82 (fun hc => ?_))) (fun t1 ht1 e1 => br_f (by decide) ?_)
    · obtain ⟨t, ht, e⟩ := hc.1 (by omega)
      exact hn t ht e
    refine pk_lt used 2 (fun u2 => ?_) (fun u2 => ?_)
    · refine pk_lt used 3 (fun u3 => ?_) (fun u3 => absurd u3 (by omega))
      exact H78 (fun _ => ⟨t1, ht1, e1⟩) (fun h => absurd h (by omega)) (fun h => absurd h (by omega))
    · refine cd_may (fun hn => br_t rfl (H82 (fun hc => ?_))) (fun t2 ht2 e2 => br_f (by decide) ?_)
      · obtain ⟨t, ht, e⟩ := hc.2.1 (by omega)
        exact hn t ht e
      refine pk_lt used 3 (fun u3 => ?_) (fun u3 => ?_)
      · exact H78 (fun _ => ⟨t1, ht1, e1⟩) (fun _ => ⟨t2, ht2, e2⟩) (fun h => absurd h (by omega))
      · refine cd_may (fun hn => br_t rfl (H82 (fun hc => ?_))) (fun t3 ht3 e3 => br_f (by decide) ?_)
        · obtain ⟨t, ht, e⟩ := hc.2.2 (by omega)
          exact hn t ht e
        exact H78 (fun _ => ⟨t1, ht1, e1⟩) (fun _ => ⟨t2, ht2, e2⟩) (fun _ => ⟨t3, ht3, e3⟩)
theorem cd_yex {post : Int32 → SY → Prop} {b used : Nat} {kk first second third : Int32} (hb : b < 12) (hu : used ≤ 3)
    (h0 : ¬ ((0 < used → ∃ t : Nat, t < 12 ∧ first = nI t) ∧ (1 < used → ∃ t : Nat, t < 12 ∧ second = nI t) ∧ (2 < used → ∃ t : Nat, t < 12 ∧ third = nI t)) → post 0 (y_made, y_blocks, y_edges, y_paths, y_many, y_lastX, y_lastY, y_lastBlocks, y_op, y_number, y_kind, y_target, y_from, y_to, y_exit, y_weight, y_firstEdge, y_tree, y_back, y_row, y_length, y_gone, y_done, y_went, y_cut, y_kept, y_mark, y_way, y_tried, y_stack))
    (h1 : (0 < used → ∃ t : Nat, t < 12 ∧ first = nI t) → (1 < used → ∃ t : Nat, t < 12 ∧ second = nI t) → (2 < used → ∃ t : Nat, t < 12 ∧ third = nI t) → post 1 (y_made, y_blocks, y_edges, y_paths, y_many, y_lastX, y_lastY, y_lastBlocks, y_op, y_number, (upd y_kind b kk), (upd (upd (upd y_target (3 * b) first) (3 * b + 1) second) (3 * b + 2) third), y_from, y_to, y_exit, y_weight, y_firstEdge, y_tree, y_back, y_row, y_length, y_gone, y_done, y_went, y_cut, y_kept, y_mark, y_way, y_tried, y_stack)) :
    wY_exits_37 post (nI b) kk first second third (nI used) y_made y_blocks y_edges y_paths y_many y_lastX y_lastY y_lastBlocks y_op y_number y_kind y_target y_from y_to y_exit y_weight y_firstEdge y_tree y_back y_row y_length y_gone y_done y_went y_cut y_kept y_mark y_way y_tried y_stack := by
  have c0 : 3 * nI b = nI (3 * b) := by rw [show (3 : Int32) = nI 3 from rfl, pk_mul]
  have c1 : 3 * nI b + 1 = nI (3 * b + 1) := by rw [c0]; exact nI_1 _
  have c2 : 3 * nI b + 2 = nI (3 * b + 2) := by rw [c0]; exact nI_add _ 2
  have H90 : (0 < used → ∃ t : Nat, t < 12 ∧ first = nI t) → (1 < used → ∃ t : Nat, t < 12 ∧ second = nI t) → (2 < used → ∃ t : Nat, t < 12 ∧ third = nI t) → wY_exits_90 post (nI b) kk first second third y_made y_blocks y_edges y_paths y_many y_lastX y_lastY y_lastBlocks y_op y_number y_kind y_target y_from y_to y_exit y_weight y_firstEdge y_tree y_back y_row y_length y_gone y_done y_went y_cut y_kept y_mark y_way y_tried y_stack := by
    intro a1 a2 a3
    exact ⟨pk_in b 24 (by omega), nm_r (congrArg (fun q => upd y_kind q kk) (cd_cl (by omega))) ⟨pk_in (3 * b) 72 (by omega) c0, nm_r (congrArg (fun q => upd y_target q _) (pk_cl (3 * b) c0)) ⟨pk_in (3 * b + 1) 72 (by omega) c1, nm_r (congrArg (fun q => upd _ q _) (pk_cl (3 * b + 1) c1)) ⟨pk_in (3 * b + 2) 72 (by omega) c2, nm_r (congrArg (fun q => upd _ q _) (pk_cl (3 * b + 2) c2)) (h1 a1 a2 a3)⟩⟩⟩⟩
  refine pk_le used 0 (fun u1 => ?_) (fun u1 => ?_)
  · refine pk_le used 1 (fun u2 => ?_) (fun u2 => absurd u2 (by omega))
    refine pk_le used 2 (fun u3 => ?_) (fun u3 => absurd u3 (by omega))
    exact H90 (fun h => absurd h (by omega)) (fun h => absurd h (by omega)) (fun h => absurd h (by omega))
  · refine cd_yin (n := 12) rfl (by omega) (fun hn => br_t rfl (h0 (fun hc => ?_))) (fun t1 ht1 e1 => br_f (by decide) ?_)
    · obtain ⟨t, ht, e⟩ := hc.1 (by omega)
      exact hn t ht e
    refine pk_le used 1 (fun u2 => ?_) (fun u2 => ?_)
    · refine pk_le used 2 (fun u3 => ?_) (fun u3 => absurd u3 (by omega))
      exact H90 (fun _ => ⟨t1, ht1, e1⟩) (fun h => absurd h (by omega)) (fun h => absurd h (by omega))
    · refine cd_yin (n := 12) rfl (by omega) (fun hn => br_t rfl (h0 (fun hc => ?_))) (fun t2 ht2 e2 => br_f (by decide) ?_)
      · obtain ⟨t, ht, e⟩ := hc.2.1 (by omega)
        exact hn t ht e
      refine pk_le used 2 (fun u3 => ?_) (fun u3 => ?_)
      · exact H90 (fun _ => ⟨t1, ht1, e1⟩) (fun _ => ⟨t2, ht2, e2⟩) (fun h => absurd h (by omega))
      · refine cd_yin (n := 12) rfl (by omega) (fun hn => br_t rfl (h0 (fun hc => ?_))) (fun t3 ht3 e3 => br_f (by decide) ?_)
        · obtain ⟨t, ht, e⟩ := hc.2.2 (by omega)
          exact hn t ht e
        exact H90 (fun _ => ⟨t1, ht1, e1⟩) (fun _ => ⟨t2, ht2, e2⟩) (fun _ => ⟨t3, ht3, e3⟩)
end
theorem cd_Dex {n b used kd : Nat} {ops operands kinds targets op number kind target : Nat → Int32} {kk first second third : Int32} (hD : cd_D n ops operands kinds targets op number kind target) (hb : b < n) (hk : kk = nI kd) (hkd : kd < 6) (hu : kk = 0 ∨ used = cd_ec kk)
    (h1 : 0 < used → ∃ t : Nat, t < 12 ∧ first = nI t) (h2 : 1 < used → ∃ t : Nat, t < 12 ∧ second = nI t) (h3 : 2 < used → ∃ t : Nat, t < 12 ∧ third = nI t) :
    cd_D n ops operands (upd kinds b kk) (upd (upd (upd targets (3 * b) (if kk = 0 then -1 else first)) (3 * b + 1) second) (3 * b + 2) third) op number (upd kind b kk) (upd (upd (upd target (3 * b) first) (3 * b + 1) second) (3 * b + 2) third) := by
  obtain ⟨d1, d2, d3⟩ := hD
  have A : ∀ {a : Nat → Int32} {z : Int32} {i : Nat}, upd (upd (upd a (3 * b) z) (3 * b + 1) second) (3 * b + 2) third i = if i = 3 * b + 2 then third else if i = 3 * b + 1 then second else if i = 3 * b then z else a i := fun {a z i} => rfl
  refine ⟨d1, fun i hi => ?_, fun i hi => ?_⟩
  · obtain ⟨a1, a2, a3, a4, a5⟩ := d2 i hi
    refine ⟨a1, a2, ?_, ?_, ?_⟩
    · unfold upd; split
      · rfl
      · exact a3
    · rw [A, A]
      by_cases e : i = b
      · subst e; rw [if_neg (by omega), if_pos rfl, if_neg (by omega), if_pos rfl]
      · rw [if_neg (by omega), if_neg (by omega), if_neg (by omega), if_neg (by omega), if_neg (by omega), if_neg (by omega)]; exact a4
    · rw [A, A]
      by_cases e : i = b
      · subst e; rw [if_pos rfl, if_pos rfl]
      · rw [if_neg (by omega), if_neg (by omega), if_neg (by omega), if_neg (by omega), if_neg (by omega), if_neg (by omega)]; exact a5
  · by_cases e : i = b
    · subst e
      rw [pk_us]
      refine ⟨⟨kd, hkd, hk⟩, fun z => ?_, fun z => ⟨?_, fun k hk2 => ?_⟩⟩
      · rw [A, if_neg (by omega), if_neg (by omega), if_pos rfl, if_pos z]
      · rw [A, A, if_neg (by omega), if_neg (by omega), if_pos rfl, if_neg (by omega), if_neg (by omega), if_pos rfl, if_neg z]
      · have := cd_ec_r kk
        have hu' : used = cd_ec kk := hu.resolve_left z
        rw [A]
        by_cases k2 : k = 2
        · subst k2; rw [if_pos rfl]; exact h3 (by omega)
        · by_cases k1 : k = 1
          · subst k1; rw [if_neg (by omega), if_pos rfl]; exact h2 (by omega)
          · rw [if_neg (by omega), if_neg (by omega), if_pos (by omega), if_neg z]; exact h1 (by omega)
    · obtain ⟨b1, b2, b3⟩ := d3 i hi
      rw [pk_un e]
      refine ⟨b1, fun z => ?_, fun z => ⟨?_, fun k hk2 => ?_⟩⟩
      · rw [A, if_neg (by omega), if_neg (by omega), if_neg (by omega)]; exact b2 z
      · rw [A, A, if_neg (by omega), if_neg (by omega), if_neg (by omega), if_neg (by omega), if_neg (by omega), if_neg (by omega)]; exact (b3 z).1
      · have := cd_ec_r (kinds i)
        rw [A, if_neg (by omega), if_neg (by omega), if_neg (by omega)]
        exact (b3 z).2 k hk2
theorem i_vc_exits {k : Nat} {u : SX} {v : SY} (I : i_Rel k u v) (hk : k + 6 ≤ 3072) (v1 : Int32) (v2 : Int32) (v3 : Int32) (v4 : Int32) (v5 : Int32) : wpX_exits (fun r u' => wpY_exits (fun r' v' => r' = r ∧ i_Rel (k + 6) u' v') v v1 v2 v3 v4 v5) u v1 v2 v3 v4 v5 := by
  have I' := i_up I
  obtain ⟨x_blocks, x_builtBlocks, x_edges, x_paths, x_runX, x_runY, x_runDone, x_ops, x_operands, x_kinds, x_targets, x_builtOps, x_builtOperands, x_builtKinds, x_firstEdge, x_edgeFrom, x_edgeExit, x_edgeTo, x_edgeWeight, x_inTree, x_isBack, x_beginsPaths, x_firstPath, x_pathsFrom, x_pathsBefore, x_counts, x_dumped, x_dumpKept, x_looked, x_joined, x_met, x_nextExit, x_way⟩ := u
  obtain ⟨y_made, y_blocks, y_edges, y_paths, y_many, y_lastX, y_lastY, y_lastBlocks, y_op, y_number, y_kind, y_target, y_from, y_to, y_exit, y_weight, y_firstEdge, y_tree, y_back, y_row, y_length, y_gone, y_done, y_went, y_cut, y_kept, y_mark, y_way, y_tried, y_stack⟩ := v
  obtain ⟨n, nb, ne, np, rfl, rfl, rfl, rfl, rfl, rfl, rfl, rfl, rfl, rfl, rfl, rfl, rfl, rfl, rfl, rfl, rfl, rfl, hD, hB, hC, hK, hP⟩ := I
  have hn : n ≤ 12 := hD.1
  unfold wpX_exits wpY_exits
  dsimp only
  have Hbad : (∀ t : Nat, t < n → ¬ v1 = nI t) → wpY_in (fun r_1 => ((r_1 = 0 → (0 : Int32) = 0 ∧ i_Rel (k + 6) ((nI n), (nI nb), (nI ne), (nI np), x_runX, x_runY, x_runDone, x_ops, x_operands, x_kinds, x_targets, x_builtOps, x_builtOperands, x_builtKinds, x_firstEdge, x_edgeFrom, x_edgeExit, x_edgeTo, x_edgeWeight, x_inTree, x_isBack, x_beginsPaths, x_firstPath, x_pathsFrom, x_pathsBefore, x_counts, x_dumped, x_dumpKept, x_looked, x_joined, x_met, x_nextExit, x_way) ((nI n), (nI nb), (nI ne), y_paths, y_many, x_runX, x_runY, x_runDone, y_op, y_number, y_kind, y_target, x_edgeFrom, x_edgeTo, x_edgeExit, x_edgeWeight, x_firstEdge, x_inTree, x_isBack, y_row, y_length, y_gone, y_done, y_went, y_cut, x_dumpKept, y_mark, y_way, y_tried, y_stack)) ∧ (¬ r_1 = 0 → False))) v1 0 (nI n - 1) := fun hb => cd_yin rfl (by omega) (fun _ => br_t rfl ⟨rfl, I'⟩) (fun t ht e => absurd e (hb t ht))
  have Y0 : ∀ {A : Prop}, (∀ t : Nat, t < n → ¬ v1 = nI t) → wpY_in (fun r_1 => ((r_1 = 0 → (0 : Int32) = 0 ∧ i_Rel (k + 6) ((nI n), (nI nb), (nI ne), (nI np), x_runX, x_runY, x_runDone, x_ops, x_operands, x_kinds, x_targets, x_builtOps, x_builtOperands, x_builtKinds, x_firstEdge, x_edgeFrom, x_edgeExit, x_edgeTo, x_edgeWeight, x_inTree, x_isBack, x_beginsPaths, x_firstPath, x_pathsFrom, x_pathsBefore, x_counts, x_dumped, x_dumpKept, x_looked, x_joined, x_met, x_nextExit, x_way) ((nI n), (nI nb), (nI ne), y_paths, y_many, x_runX, x_runY, x_runDone, y_op, y_number, y_kind, y_target, x_edgeFrom, x_edgeTo, x_edgeExit, x_edgeWeight, x_firstEdge, x_inTree, x_isBack, y_row, y_length, y_gone, y_done, y_went, y_cut, x_dumpKept, y_mark, y_way, y_tried, y_stack)) ∧ (¬ r_1 = 0 → A))) v1 0 (nI n - 1) := fun hb => cd_yin rfl (by omega) (fun _ => br_t rfl ⟨rfl, I'⟩) (fun t ht e => absurd e (hb t ht))
  refine br_c (fun h => ?_) (fun h => ?_)
  · refine Y0 (fun t ht e => ?_)
    subst e; exact absurd h (nI_pos (by omega))
  · obtain ⟨b, hb, rfl⟩ := nI_of h
    refine pk_le n b (fun h1 => ?_) (fun h1 => ?_)
    · refine Y0 (fun t ht e => ?_)
      rw [nI_eq hb (by omega)] at e; omega
    have hb12 : b < 12 := by omega
    have Y1 : ∀ {A : Prop} {P : Int32 → Prop}, P 1 → wpY_in (fun r_1 => ((r_1 = 0 → A) ∧ (¬ r_1 = 0 → P 1))) (nI b) 0 (nI n - 1) := fun hp => cd_yin rfl (by omega) (fun hc => absurd rfl (hc b (by omega))) (fun t ht e => br_f (by decide) hp)
    refine br_c (fun h2 => ?_) (fun h2 => ?_)
    · refine cd_yin rfl (by omega) (fun hc => absurd rfl (hc b (by omega))) (fun t ht e => br_f (by decide) ?_)
      refine cd_yin (n := 6) rfl (by omega) (fun hc => br_t rfl ⟨rfl, I'⟩) (fun t ht e => ?_)
      subst e; exact absurd h2 (nI_pos (by omega))
    obtain ⟨kd, hkd, rfl⟩ := nI_of h2
    refine pk_le kd 5 (fun h5 => ?_) (fun h5 => ?_)
    · have key : ∀ used : Nat, used ≤ 3 → (nI kd = 0 ∨ used = cd_ec (nI kd)) → (nI kd = 0 → used = 0) → wX_exits_35 (fun r u' => wpY_in (fun r_1 => (((r_1 = 0 → ((0 : Int32) = r ∧ i_Rel (k + 6) u' ((nI n), (nI nb), (nI ne), y_paths, y_many, x_runX, x_runY, x_runDone, y_op, y_number, y_kind, y_target, x_edgeFrom, x_edgeTo, x_edgeExit, x_edgeWeight, x_firstEdge, x_inTree, x_isBack, y_row, y_length, y_gone, y_done, y_went, y_cut, x_dumpKept, y_mark, y_way, y_tried, y_stack))) ∧ (¬ r_1 = 0 → (wpY_in (fun r_3 => (((r_3 = 0 → ((0 : Int32) = r ∧ i_Rel (k + 6) u' ((nI n), (nI nb), (nI ne), y_paths, y_many, x_runX, x_runY, x_runDone, y_op, y_number, y_kind, y_target, x_edgeFrom, x_edgeTo, x_edgeExit, x_edgeWeight, x_firstEdge, x_inTree, x_isBack, y_row, y_length, y_gone, y_done, y_went, y_cut, x_dumpKept, y_mark, y_way, y_tried, y_stack))) ∧ (¬ r_3 = 0 → (((nI kd = 0 → (wY_exits_37 (fun r' v' => r' = r ∧ i_Rel (k + 6) u' v') (nI b) (nI kd) v3 v4 v5 0 (nI n) (nI nb) (nI ne) y_paths y_many x_runX x_runY x_runDone y_op y_number y_kind y_target x_edgeFrom x_edgeTo x_edgeExit x_edgeWeight x_firstEdge x_inTree x_isBack y_row y_length y_gone y_done y_went y_cut x_dumpKept y_mark y_way y_tried y_stack)) ∧ (¬ nI kd = 0 → (wpY_exitsOf (fun r_6 => (wY_exits_37 (fun r' v' => r' = r ∧ i_Rel (k + 6) u' v') (nI b) (nI kd) v3 v4 v5 r_6 (nI n) (nI nb) (nI ne) y_paths y_many x_runX x_runY x_runDone y_op y_number y_kind y_target x_edgeFrom x_edgeTo x_edgeExit x_edgeWeight x_firstEdge x_inTree x_isBack y_row y_length y_gone y_done y_went y_cut x_dumpKept y_mark y_way y_tried y_stack)) (nI kd))))))) )) (nI kd) 0 5))))) (nI b) 0 (nI n - 1)) (nI b) (nI kd) v3 v4 v5 (nI used) (nI n) (nI nb) (nI ne) (nI np) x_runX x_runY x_runDone x_ops x_operands x_kinds x_targets x_builtOps x_builtOperands x_builtKinds x_firstEdge x_edgeFrom x_edgeExit x_edgeTo x_edgeWeight x_inTree x_isBack x_beginsPaths x_firstPath x_pathsFrom x_pathsBefore x_counts x_dumped x_dumpKept x_looked x_joined x_met x_nextExit x_way := by
        intro used hu1 hu2 hu3
        have Yk : ∀ {r : Int32} {u' : SX}, wY_exits_37 (fun r' v' => r' = r ∧ i_Rel (k + 6) u' v') (nI b) (nI kd) v3 v4 v5 (nI used) (nI n) (nI nb) (nI ne) y_paths y_many x_runX x_runY x_runDone y_op y_number y_kind y_target x_edgeFrom x_edgeTo x_edgeExit x_edgeWeight x_firstEdge x_inTree x_isBack y_row y_length y_gone y_done y_went y_cut x_dumpKept y_mark y_way y_tried y_stack → wpY_in (fun r_1 => (((r_1 = 0 → ((0 : Int32) = r ∧ i_Rel (k + 6) u' ((nI n), (nI nb), (nI ne), y_paths, y_many, x_runX, x_runY, x_runDone, y_op, y_number, y_kind, y_target, x_edgeFrom, x_edgeTo, x_edgeExit, x_edgeWeight, x_firstEdge, x_inTree, x_isBack, y_row, y_length, y_gone, y_done, y_went, y_cut, x_dumpKept, y_mark, y_way, y_tried, y_stack))) ∧ (¬ r_1 = 0 → (wpY_in (fun r_3 => (((r_3 = 0 → ((0 : Int32) = r ∧ i_Rel (k + 6) u' ((nI n), (nI nb), (nI ne), y_paths, y_many, x_runX, x_runY, x_runDone, y_op, y_number, y_kind, y_target, x_edgeFrom, x_edgeTo, x_edgeExit, x_edgeWeight, x_firstEdge, x_inTree, x_isBack, y_row, y_length, y_gone, y_done, y_went, y_cut, x_dumpKept, y_mark, y_way, y_tried, y_stack))) ∧ (¬ r_3 = 0 → (((nI kd = 0 → (wY_exits_37 (fun r' v' => r' = r ∧ i_Rel (k + 6) u' v') (nI b) (nI kd) v3 v4 v5 0 (nI n) (nI nb) (nI ne) y_paths y_many x_runX x_runY x_runDone y_op y_number y_kind y_target x_edgeFrom x_edgeTo x_edgeExit x_edgeWeight x_firstEdge x_inTree x_isBack y_row y_length y_gone y_done y_went y_cut x_dumpKept y_mark y_way y_tried y_stack)) ∧ (¬ nI kd = 0 → (wpY_exitsOf (fun r_6 => (wY_exits_37 (fun r' v' => r' = r ∧ i_Rel (k + 6) u' v') (nI b) (nI kd) v3 v4 v5 r_6 (nI n) (nI nb) (nI ne) y_paths y_many x_runX x_runY x_runDone y_op y_number y_kind y_target x_edgeFrom x_edgeTo x_edgeExit x_edgeWeight x_firstEdge x_inTree x_isBack y_row y_length y_gone y_done y_went y_cut x_dumpKept y_mark y_way y_tried y_stack)) (nI kd))))))) )) (nI kd) 0 5))))) (nI b) 0 (nI n - 1) := by
          intro r u' hY
          refine cd_yin rfl (by omega) (fun hc => absurd rfl (hc b (by omega))) (fun t ht e => br_f (by decide) ?_)
          refine cd_yin (n := 6) rfl (by omega) (fun hc => absurd rfl (hc kd (by omega))) (fun t ht e => br_f (by decide) (br_c (fun hz => ?_) (fun hz => ?_)))
          · rw [hu3 hz] at hY; exact hY
          · refine cd_yec ⟨kd, by omega, rfl⟩ ?_
            rw [← hu2.resolve_left hz]; exact hY
        refine cd_xex hb12 hu1 rfl (by omega) (fun hc => ?_) (fun a1 a2 a3 => ?_)
        · exact Yk (cd_yex hb12 hu1 (fun _ => ⟨rfl, I'⟩) (fun b1 b2 b3 => absurd ⟨b1, b2, b3⟩ hc))
        · refine Yk (cd_yex hb12 hu1 (fun hc => absurd ⟨a1, a2, a3⟩ hc) (fun b1 b2 b3 => ⟨rfl, ?_⟩))
          refine cd_mk n nb ne np (cd_Dex hD (by omega) rfl (by omega) hu2 a1 a2 a3) ?_ hC hK hP
          obtain ⟨q1, q2, q3, q4⟩ := hB
          refine ⟨q1, q2, fun c hc => ?_, q4⟩
          rw [pk_un (show 12 + c ≠ b by omega)]
          exact q3 c hc
      refine br_c (fun hz => ?_) (fun hz => ?_)
      · exact key 0 (by omega) (Or.inl hz) (fun _ => rfl)
      · exact cd_xec (key (cd_ec (nI kd)) (cd_ec_r _).2 (Or.inr rfl) (fun z => absurd z hz))
    · refine cd_yin rfl (by omega) (fun hc => absurd rfl (hc b (by omega))) (fun t ht e => br_f (by decide) ?_)
      refine cd_yin (n := 6) rfl (by omega) (fun hc => br_t rfl ⟨rfl, I'⟩) (fun t ht e => ?_)
      rw [nI_eq hkd (by omega)] at e; omega
end
section
theorem i_vc_edge {k : Nat} {u : SX} {v : SY} (I : i_Rel k u v) (hk : k + 6 ≤ 3072) (v1 : Int32) (v2 : Int32) : wpX_edge (fun r => wpY_edge (fun r' => r' = r ∧ i_Rel (k + 6) u v) v v1 v2) u v1 v2 := by
  have I' := i_up I
  obtain ⟨x_blocks, x_builtBlocks, x_edges, x_paths, x_runX, x_runY, x_runDone, x_ops, x_operands, x_kinds, x_targets, x_builtOps, x_builtOperands, x_builtKinds, x_firstEdge, x_edgeFrom, x_edgeExit, x_edgeTo, x_edgeWeight, x_inTree, x_isBack, x_beginsPaths, x_firstPath, x_pathsFrom, x_pathsBefore, x_counts, x_dumped, x_dumpKept, x_looked, x_joined, x_met, x_nextExit, x_way⟩ := u
  obtain ⟨y_made, y_blocks, y_edges, y_paths, y_many, y_lastX, y_lastY, y_lastBlocks, y_op, y_number, y_kind, y_target, y_from, y_to, y_exit, y_weight, y_firstEdge, y_tree, y_back, y_row, y_length, y_gone, y_done, y_went, y_cut, y_kept, y_mark, y_way, y_tried, y_stack⟩ := v
  obtain ⟨n, nb, ne, np, rfl, rfl, rfl, rfl, rfl, rfl, rfl, rfl, rfl, rfl, rfl, rfl, rfl, rfl, rfl, rfl, rfl, rfl, hD, hB, hC, hK, hP⟩ := I
  have hne := cd_ne hB
  unfold wpX_edge wpX_isEdge wpY_edge
  dsimp only
  refine br_c (fun h => ?_) (fun h => ?_)
  · refine br_t rfl (cd_yin rfl (by omega) (fun _ => br_t rfl ⟨rfl, I'⟩) (fun j hj e => ?_))
    subst e; exact absurd h (nI_pos (by omega))
  · obtain ⟨j, hj, rfl⟩ := nI_of h
    refine pk_le ne j (fun h1 => ?_) (fun h1 => ?_)
    · refine br_t rfl (cd_yin rfl (by omega) (fun _ => br_t rfl ⟨rfl, I'⟩) (fun i hi e => ?_))
      rw [nI_eq hj (by omega)] at e; omega
    · have hin : vp_in (nI j) 37 := pk_in j 37 (by omega)
      refine br_f (by decide) (br_c (fun g => ?_) (fun g => br_c (fun g5 => ?_) (fun g5 => br_c (fun g0 => ⟨hin, ?_⟩) (fun g0 => br_c (fun g1 => ⟨hin, ?_⟩) (fun g1 => br_c (fun g2 => ⟨hin, ?_⟩) (fun g2 => br_c (fun g3 => ⟨hin, br_c (fun b => ?_) (fun b => ?_)⟩) (fun g3 => br_c (fun g4 => ⟨hin, br_c (fun b => ?_) (fun b => ?_)⟩) (fun g4 => br_c (fun g6 => ⟨hin, ?_⟩) (fun g6 => trivial)))))))))
      all_goals refine cd_yin rfl (by omega) (fun hc => absurd rfl (hc j h1)) (fun i hi e => br_f (by decide) ?_)
      · exact br_t g ⟨rfl, I'⟩
      · exact br_f g (br_t g5 ⟨rfl, I'⟩)
      · exact br_f g (br_f g5 (br_t g0 ⟨hin, rfl, I'⟩))
      · exact br_f g (br_f g5 (br_f g0 (br_t g1 ⟨hin, rfl, I'⟩)))
      · exact br_f g (br_f g5 (br_f g0 (br_f g1 (br_t g2 ⟨hin, rfl, I'⟩))))
      · exact br_f g (br_f g5 (br_f g0 (br_f g1 (br_f g2 (br_t g3 ⟨hin, br_t b ⟨rfl, I'⟩⟩)))))
      · exact br_f g (br_f g5 (br_f g0 (br_f g1 (br_f g2 (br_t g3 ⟨hin, br_f b ⟨rfl, I'⟩⟩)))))
      · exact br_f g (br_f g5 (br_f g0 (br_f g1 (br_f g2 (br_f g3 (br_t g4 ⟨hin, br_t b ⟨rfl, I'⟩⟩))))))
      · exact br_f g (br_f g5 (br_f g0 (br_f g1 (br_f g2 (br_f g3 (br_t g4 ⟨hin, br_f b ⟨rfl, I'⟩⟩))))))
      · exact br_f g (br_f g5 (br_f g0 (br_f g1 (br_f g2 (br_f g3 (br_f g4 (br_t g6 ⟨hin, rfl, I'⟩)))))))
section
variable {x_blocks x_builtBlocks x_edges x_paths x_runX x_runY x_runDone : Int32} {x_ops x_operands x_kinds x_targets x_builtOps x_builtOperands x_builtKinds x_firstEdge x_edgeFrom x_edgeExit x_edgeTo x_edgeWeight x_inTree x_isBack x_beginsPaths x_firstPath x_pathsFrom x_pathsBefore x_counts x_dumped x_dumpKept x_looked x_joined x_met x_nextExit x_way : Nat → Int32} {y_made y_blocks y_edges y_paths y_many y_lastX y_lastY y_lastBlocks : Int32} {y_op y_number y_kind y_target y_from y_to y_exit y_weight y_firstEdge y_tree y_back y_row y_length y_gone y_done y_went y_cut y_kept y_mark y_way y_tried y_stack : Nat → Int32}
theorem cd_xprobeN {post : Int32 → Prop} {ne : Nat} {v1 : Int32} (hne : ne ≤ 37) (h : v1 < 0) (hp : post (-1)) : ∀ d i c, i + d = ne → c ≤ i → wX_probe_4 post v1 x_blocks x_builtBlocks (nI ne) x_paths x_runX x_runY x_runDone x_ops x_operands x_kinds x_targets x_builtOps x_builtOperands x_builtKinds x_firstEdge x_edgeFrom x_edgeExit x_edgeTo x_edgeWeight x_inTree x_isBack x_beginsPaths x_firstPath x_pathsFrom x_pathsBefore x_counts x_dumped x_dumpKept x_looked x_joined x_met x_nextExit x_way (d + 1) (nI c) (nI i) := by
  intro d
  induction d with
  | zero =>
    intro i c hi hc
    exact pk_le ne i (fun _ => hp) (fun z => absurd z (by omega))
  | succ d ih =>
    intro i c hi hc
    refine pk_le ne i (fun z => absurd z (by omega)) (fun _ => ⟨pk_in i 37 (by omega), br_c (fun _ => ?_) (fun _ => ?_)⟩)
    · refine br_f (fun e => ?_) (nm_r (nI_1 c) (nm_r (nI_1 i) (ih (i + 1) (c + 1) (by omega) (by omega))))
      subst e; exact absurd h (nI_pos (by omega))
    · exact nm_r (nI_1 i) (ih (i + 1) c (by omega) (by omega))
theorem cd_probe {ne : Nat} {v1 : Int32} (hne : ne ≤ 37) (h : ¬ v1 < 0) : ∀ d i c, i + d = ne → ∃ r : Int32, (∀ post : Int32 → Prop, post r → wX_probe_4 post v1 x_blocks x_builtBlocks (nI ne) x_paths x_runX x_runY x_runDone x_ops x_operands x_kinds x_targets x_builtOps x_builtOperands x_builtKinds x_firstEdge x_edgeFrom x_edgeExit x_edgeTo x_edgeWeight x_inTree x_isBack x_beginsPaths x_firstPath x_pathsFrom x_pathsBefore x_counts x_dumped x_dumpKept x_looked x_joined x_met x_nextExit x_way (d + 1) (nI c) (nI i)) ∧ (∀ post : Int32 → Prop, post r → wY_probe_4 post v1 y_made y_blocks (nI ne) y_paths y_many y_lastX y_lastY y_lastBlocks y_op y_number y_kind y_target y_from y_to y_exit y_weight y_firstEdge x_inTree y_back y_row y_length y_gone y_done y_went y_cut y_kept y_mark y_way y_tried y_stack (d + 1) (nI c) (nI i)) := by
  intro d
  induction d with
  | zero =>
    intro i c hi
    exact ⟨-1, fun post hp => pk_le ne i (fun _ => hp) (fun z => absurd z (by omega)), fun post hp => pk_le ne i (fun _ => hp) (fun z => absurd z (by omega))⟩
  | succ d ih =>
    intro i c hi
    by_cases ht : x_inTree (nI i).toNatClampNeg = 0
    · by_cases e : nI c = v1
      · exact ⟨nI i, fun post hp => pk_le ne i (fun z => absurd z (by omega)) (fun _ => ⟨pk_in i 37 (by omega), br_t ht (br_t e hp)⟩), fun post hp => pk_le ne i (fun z => absurd z (by omega)) (fun _ => br_f h ⟨pk_in i 37 (by omega), br_t ht (br_t e hp)⟩)⟩
      · obtain ⟨r, rx, ry⟩ := ih (i + 1) (c + 1) (by omega)
        exact ⟨r, fun post hp => pk_le ne i (fun z => absurd z (by omega)) (fun _ => ⟨pk_in i 37 (by omega), br_t ht (br_f e (nm_r (nI_1 c) (nm_r (nI_1 i) (rx post hp))))⟩), fun post hp => pk_le ne i (fun z => absurd z (by omega)) (fun _ => br_f h ⟨pk_in i 37 (by omega), br_t ht (br_f e (nm_r (nI_1 c) (nm_r (nI_1 i) (ry post hp))))⟩)⟩
    · obtain ⟨r, rx, ry⟩ := ih (i + 1) c (by omega)
      exact ⟨r, fun post hp => pk_le ne i (fun z => absurd z (by omega)) (fun _ => ⟨pk_in i 37 (by omega), br_f ht (nm_r (nI_1 i) (rx post hp))⟩), fun post hp => pk_le ne i (fun z => absurd z (by omega)) (fun _ => br_f h ⟨pk_in i 37 (by omega), br_f ht (nm_r (nI_1 i) (ry post hp))⟩)⟩
/-- how many of the first n are above 0, are 0 -/
def cd_ca (f : Nat → Int32) (n : Nat) : Nat := cd_sm (fun i => if f i ≤ 0 then 0 else 1) n
def cd_cz (f : Nat → Int32) (n : Nat) : Nat := cd_sm (fun i => if f i = 0 then 1 else 0) n
theorem cd_ca_t {f : Nat → Int32} {i : Nat} (h : f i ≤ 0) : cd_ca f (i + 1) = cd_ca f i := by
  show cd_sm _ i + (if f i ≤ 0 then 0 else 1) = _
  rw [if_pos h]; rfl
theorem cd_ca_f {f : Nat → Int32} {i : Nat} (h : ¬ f i ≤ 0) : cd_ca f (i + 1) = cd_ca f i + 1 := by
  show cd_sm _ i + (if f i ≤ 0 then 0 else 1) = _
  rw [if_neg h]; rfl
theorem cd_cz_t {f : Nat → Int32} {i : Nat} (h : f i = 0) : cd_cz f (i + 1) = cd_cz f i + 1 := by
  show cd_sm _ i + (if f i = 0 then 1 else 0) = _
  rw [if_pos h]; rfl
theorem cd_cz_f {f : Nat → Int32} {i : Nat} (h : ¬ f i = 0) : cd_cz f (i + 1) = cd_cz f i := by
  show cd_sm _ i + (if f i = 0 then 1 else 0) = _
  rw [if_neg h]; rfl
theorem cd_ca_c {f g : Nat → Int32} {n : Nat} (h : ∀ i, i < n → f i = g i) : cd_ca f n = cd_ca g n := cd_sm_c n (fun i hi => by
  show (if f i ≤ 0 then 0 else 1) = (if g i ≤ 0 then 0 else 1)
  rw [h i hi])
theorem cd_xabove {post : Int32 → Prop} {s m : Nat} {q r : Int32} (hq : q = nI s) (hr : r = nI m) (hs : s + m ≤ 350) (hp : post (nI (cd_ca (fun i => x_counts (s + i)) m))) : wpX_countsAboveZero post (x_blocks, x_builtBlocks, x_edges, x_paths, x_runX, x_runY, x_runDone, x_ops, x_operands, x_kinds, x_targets, x_builtOps, x_builtOperands, x_builtKinds, x_firstEdge, x_edgeFrom, x_edgeExit, x_edgeTo, x_edgeWeight, x_inTree, x_isBack, x_beginsPaths, x_firstPath, x_pathsFrom, x_pathsBefore, x_counts, x_dumped, x_dumpKept, x_looked, x_joined, x_met, x_nextExit, x_way) q r := by
  subst hq hr
  exact cd_loop (fun n i => wX_countsAboveZero_5 post (nI s) (nI m) x_blocks x_builtBlocks x_edges x_paths x_runX x_runY x_runDone x_ops x_operands x_kinds x_targets x_builtOps x_builtOperands x_builtKinds x_firstEdge x_edgeFrom x_edgeExit x_edgeTo x_edgeWeight x_inTree x_isBack x_beginsPaths x_firstPath x_pathsFrom x_pathsBefore x_counts x_dumped x_dumpKept x_looked x_joined x_met x_nextExit x_way n (nI (cd_ca (fun i => x_counts (s + i)) i)) (nI (s + i))) m
    (fun n => pk_le (s + m) (s + m) (fun _ => hp) (fun h => absurd h (by omega)) (nI_add s m))
    (fun n i hi hn => pk_le (s + m) (s + i) (fun h => absurd h (by omega)) (fun h => ⟨pk_in (s + i) 350 (by omega), br_c
      (fun hz => nm_r (nI_1 (s + i)) (by rw [cd_cl (by omega)] at hz; rw [cd_ca_t (f := fun i => x_counts (s + i)) hz] at hn; exact hn))
      (fun hz => nm_r (nI_1 _) (nm_r (nI_1 (s + i)) (by rw [cd_cl (by omega)] at hz; rw [cd_ca_f (f := fun i => x_counts (s + i)) hz] at hn; exact hn)))⟩) (nI_add s m))
theorem cd_xprobes {post : Int32 → Prop} {m : Nat} (hm : m ≤ 37) (hp : post (nI (cd_cz x_inTree m))) : wpX_probes post (x_blocks, x_builtBlocks, (nI m), x_paths, x_runX, x_runY, x_runDone, x_ops, x_operands, x_kinds, x_targets, x_builtOps, x_builtOperands, x_builtKinds, x_firstEdge, x_edgeFrom, x_edgeExit, x_edgeTo, x_edgeWeight, x_inTree, x_isBack, x_beginsPaths, x_firstPath, x_pathsFrom, x_pathsBefore, x_counts, x_dumped, x_dumpKept, x_looked, x_joined, x_met, x_nextExit, x_way) :=
  cd_loop (fun n i => wX_probes_4 post x_blocks x_builtBlocks (nI m) x_paths x_runX x_runY x_runDone x_ops x_operands x_kinds x_targets x_builtOps x_builtOperands x_builtKinds x_firstEdge x_edgeFrom x_edgeExit x_edgeTo x_edgeWeight x_inTree x_isBack x_beginsPaths x_firstPath x_pathsFrom x_pathsBefore x_counts x_dumped x_dumpKept x_looked x_joined x_met x_nextExit x_way n (nI (cd_cz x_inTree i)) (nI i)) m
    (fun n => pk_le m m (fun _ => hp) (fun h => absurd h (by omega)))
    (fun n i hi hn => pk_le m i (fun h => absurd h (by omega)) (fun h => ⟨pk_in i 37 (by omega), br_c
      (fun hz => nm_r (nI_1 _) (nm_r (nI_1 i) (by rw [cd_cl (by omega)] at hz; rw [cd_cz_t hz] at hn; exact hn)))
      (fun hz => nm_r (nI_1 i) (by rw [cd_cl (by omega)] at hz; rw [cd_cz_f hz] at hn; exact hn))⟩))
theorem cd_ycov71 {post : Int32 → Prop} {m : Nat} (hm : m ≤ 12) (hp : post (nI (cd_ca y_done m))) : ∃ n, wY_covered_71 post y_made (nI m) y_edges y_paths y_many y_lastX y_lastY y_lastBlocks y_op y_number y_kind y_target y_from y_to y_exit y_weight y_firstEdge y_tree y_back y_row y_length y_gone y_done y_went y_cut y_kept y_mark y_way y_tried y_stack n 0 0 :=
  cd_loop (fun n i => wY_covered_71 post y_made (nI m) y_edges y_paths y_many y_lastX y_lastY y_lastBlocks y_op y_number y_kind y_target y_from y_to y_exit y_weight y_firstEdge y_tree y_back y_row y_length y_gone y_done y_went y_cut y_kept y_mark y_way y_tried y_stack n (nI (cd_ca y_done i)) (nI i)) m
    (fun n => pk_le m m (fun _ => hp) (fun h => absurd h (by omega)))
    (fun n i hi hn => pk_le m i (fun h => absurd h (by omega)) (fun h => ⟨pk_in i 36 (by omega), br_c
      (fun hz => nm_r (nI_1 i) (by rw [cd_cl (by omega)] at hz; rw [cd_ca_t hz] at hn; exact hn))
      (fun hz => nm_r (nI_1 _) (nm_r (nI_1 i) (by rw [cd_cl (by omega)] at hz; rw [cd_ca_f hz] at hn; exact hn)))⟩))
theorem cd_ycov108 {post : Int32 → Prop} {m : Nat} (hm : m < 37) (hp : post (nI (cd_ca y_gone m))) : ∃ n, wY_covered_108 post y_made y_blocks (nI (m + 1)) y_paths y_many y_lastX y_lastY y_lastBlocks y_op y_number y_kind y_target y_from y_to y_exit y_weight y_firstEdge y_tree y_back y_row y_length y_gone y_done y_went y_cut y_kept y_mark y_way y_tried y_stack n 0 0 :=
  cd_loop (fun n i => wY_covered_108 post y_made y_blocks (nI (m + 1)) y_paths y_many y_lastX y_lastY y_lastBlocks y_op y_number y_kind y_target y_from y_to y_exit y_weight y_firstEdge y_tree y_back y_row y_length y_gone y_done y_went y_cut y_kept y_mark y_way y_tried y_stack n (nI (cd_ca y_gone i)) (nI i)) m
    (fun n => pk_le m m (fun _ => hp) (fun h => absurd h (by omega)) (nI_pred m))
    (fun n i hi hn => pk_le m i (fun h => absurd h (by omega)) (fun h => ⟨pk_in i 111 (by omega), br_c
      (fun hz => nm_r (nI_1 i) (by rw [cd_cl (by omega)] at hz; rw [cd_ca_t hz] at hn; exact hn))
      (fun hz => nm_r (nI_1 _) (nm_r (nI_1 i) (by rw [cd_cl (by omega)] at hz; rw [cd_ca_f hz] at hn; exact hn)))⟩) (nI_pred m))
theorem cd_ycov157 {post : Int32 → Prop} {m : Nat} (hm : m ≤ 300) (hp : (y_many = 0 → post (nI (cd_ca y_went m))) ∧ (¬ y_many = 0 → post (-2))) : ∃ n, wY_covered_157 post y_made y_blocks y_edges (nI m) y_many y_lastX y_lastY y_lastBlocks y_op y_number y_kind y_target y_from y_to y_exit y_weight y_firstEdge y_tree y_back y_row y_length y_gone y_done y_went y_cut y_kept y_mark y_way y_tried y_stack n 0 0 :=
  cd_loop (fun n i => wY_covered_157 post y_made y_blocks y_edges (nI m) y_many y_lastX y_lastY y_lastBlocks y_op y_number y_kind y_target y_from y_to y_exit y_weight y_firstEdge y_tree y_back y_row y_length y_gone y_done y_went y_cut y_kept y_mark y_way y_tried y_stack n (nI (cd_ca y_went i)) (nI i)) m
    (fun n => pk_le m m (fun _ => hp) (fun h => absurd h (by omega)))
    (fun n i hi hn => pk_le m i (fun h => absurd h (by omega)) (fun h => ⟨pk_in i 900 (by omega), br_c
      (fun hz => nm_r (nI_1 i) (by rw [cd_cl (by omega)] at hz; rw [cd_ca_t hz] at hn; exact hn))
      (fun hz => nm_r (nI_1 _) (nm_r (nI_1 i) (by rw [cd_cl (by omega)] at hz; rw [cd_ca_f hz] at hn; exact hn)))⟩))
theorem cd_ycov199 {post : Int32 → Prop} {m : Nat} (hm : m ≤ 37) (hp : post (nI (cd_cz y_tree m))) : ∃ n, wY_covered_199 post y_made y_blocks (nI m) y_paths y_many y_lastX y_lastY y_lastBlocks y_op y_number y_kind y_target y_from y_to y_exit y_weight y_firstEdge y_tree y_back y_row y_length y_gone y_done y_went y_cut y_kept y_mark y_way y_tried y_stack n 0 0 :=
  cd_loop (fun n i => wY_covered_199 post y_made y_blocks (nI m) y_paths y_many y_lastX y_lastY y_lastBlocks y_op y_number y_kind y_target y_from y_to y_exit y_weight y_firstEdge y_tree y_back y_row y_length y_gone y_done y_went y_cut y_kept y_mark y_way y_tried y_stack n (nI (cd_cz y_tree i)) (nI i)) m
    (fun n => pk_le m m (fun _ => hp) (fun h => absurd h (by omega)))
    (fun n i hi hn => pk_le m i (fun h => absurd h (by omega)) (fun h => ⟨pk_in i 37 (by omega), br_c
      (fun hz => nm_r (nI_1 _) (nm_r (nI_1 i) (by rw [cd_cl (by omega)] at hz; rw [cd_cz_t hz] at hn; exact hn)))
      (fun hz => nm_r (nI_1 i) (by rw [cd_cl (by omega)] at hz; rw [cd_cz_f hz] at hn; exact hn))⟩))
end
theorem i_vc_probe {k : Nat} {u : SX} {v : SY} (I : i_Rel k u v) (hk : k + 6 ≤ 3072) (v1 : Int32) : wpX_probe (fun r => wpY_probe (fun r' => r' = r ∧ i_Rel (k + 6) u v) v v1) u v1 := by
  have I' := i_up I
  obtain ⟨x_blocks, x_builtBlocks, x_edges, x_paths, x_runX, x_runY, x_runDone, x_ops, x_operands, x_kinds, x_targets, x_builtOps, x_builtOperands, x_builtKinds, x_firstEdge, x_edgeFrom, x_edgeExit, x_edgeTo, x_edgeWeight, x_inTree, x_isBack, x_beginsPaths, x_firstPath, x_pathsFrom, x_pathsBefore, x_counts, x_dumped, x_dumpKept, x_looked, x_joined, x_met, x_nextExit, x_way⟩ := u
  obtain ⟨y_made, y_blocks, y_edges, y_paths, y_many, y_lastX, y_lastY, y_lastBlocks, y_op, y_number, y_kind, y_target, y_from, y_to, y_exit, y_weight, y_firstEdge, y_tree, y_back, y_row, y_length, y_gone, y_done, y_went, y_cut, y_kept, y_mark, y_way, y_tried, y_stack⟩ := v
  obtain ⟨n, nb, ne, np, rfl, rfl, rfl, rfl, rfl, rfl, rfl, rfl, rfl, rfl, rfl, rfl, rfl, rfl, rfl, rfl, rfl, rfl, hD, hB, hC, hK, hP⟩ := I
  have hne := cd_ne hB
  by_cases h : v1 < 0
  · refine Exists.intro (ne + 1) (cd_xprobeN (by omega) h ?_ ne 0 0 (by omega) (by omega))
    refine Exists.intro 1 (pk_le ne 0 (fun _ => ⟨rfl, I'⟩) (fun _ => br_t h ⟨rfl, I'⟩))
  · have P : ∃ r : Int32, (∀ post : Int32 → Prop, post r → wX_probe_4 post v1 (nI n) (nI nb) (nI ne) (nI np) x_runX x_runY x_runDone x_ops x_operands x_kinds x_targets x_builtOps x_builtOperands x_builtKinds x_firstEdge x_edgeFrom x_edgeExit x_edgeTo x_edgeWeight x_inTree x_isBack x_beginsPaths x_firstPath x_pathsFrom x_pathsBefore x_counts x_dumped x_dumpKept x_looked x_joined x_met x_nextExit x_way (ne + 1) (nI 0) (nI 0)) ∧ (∀ post : Int32 → Prop, post r → wY_probe_4 post v1 (nI n) (nI nb) (nI ne) y_paths y_many x_runX x_runY x_runDone y_op y_number y_kind y_target x_edgeFrom x_edgeTo x_edgeExit x_edgeWeight x_firstEdge x_inTree x_isBack y_row y_length y_gone y_done y_went y_cut x_dumpKept y_mark y_way y_tried y_stack (ne + 1) (nI 0) (nI 0)) := cd_probe (by omega) h ne 0 0 (by omega)
    obtain ⟨r, rx, ry⟩ := P
    exact Exists.intro (ne + 1) (rx _ (Exists.intro (ne + 1) (ry _ ⟨rfl, I'⟩)))
theorem cd_rk3 {r : Nat} (h : r < 12) : 3 ^ (r + 1) ≤ 531441 := by
  have : 3 ^ (r + 1) ≤ 3 ^ 12 := Nat.pow_le_pow_right (by omega) (by omega)
  have e : 3 ^ 12 = 531441 := by decide
  omega
theorem cd_G3 {nb : Nat} {bk to ib pf pb : Nat → Int32} {L : Nat → Prop} {rk G : Nat → Nat} (hG : cd_PG nb bk to ib L rk) (hN : cd_PN nb bk to ib pf pb L rk G) (hnb : nb ≤ 12) {b : Nat} (hb : b < nb) (hl : L b) : G b ≤ 531441 :=
  Nat.le_trans (hN b hb hl).2.2.1 (cd_rk3 (by have := (hG.2 b hb hl).1; omega))
theorem cd_fp3 {nb : Nat} {bk to ib pf pb bg : Nat → Int32} {L : Nat → Prop} {rk G : Nat → Nat} (hG : cd_PG nb bk to ib L rk) (hN : cd_PN nb bk to ib pf pb L rk G) (hL : ∀ b, b < nb → bg b ≠ 0 → L b) (hnb : nb ≤ 12) {b : Nat} (hb : b ≤ nb) : cd_fp bg G b ≤ 6377292 := by
  have h := cd_sm_le (f := fun c => if bg c = 0 then 0 else G c) (c := 531441) b (fun i hi => by
    show (if bg i = 0 then 0 else G i) ≤ 531441
    split
    · omega
    · rename_i h
      exact cd_G3 hG hN hnb (by omega) (hL i (by omega) h))
  unfold cd_fp
  omega
/-- what the answers need of the paths -/
theorem cd_Pn {nb ne np : Nat} {bk to ib pf pb bg fp : Nat → Int32} {yp ym : Int32} {row len : Nat → Int32} (h : cd_P nb ne np bk to ib pf pb bg fp yp ym row len) (hb : 0 < nb) (hnb : nb ≤ 12) : ∃ ny, yp = nI ny ∧ ((ym = 0 ∧ ny = np ∧ np ≤ 300) ∨ (¬ ym = 0 ∧ ny = 300 ∧ 300 < np ∧ np < 1000000000)) := by
  obtain ⟨L, rk, G, hG, hN, hB, hL, hF, hp, ny, hy, ho, hR⟩ := h.2 hb
  refine ⟨ny, hy, ?_⟩
  have := cd_fp3 hG hN hL hnb (Nat.le_refl nb)
  rcases ho with h1 | ⟨h1, h2, h3⟩
  · exact Or.inl h1
  · exact Or.inr ⟨h1, h2, h3, by omega⟩
theorem i_vc_path {k : Nat} {u : SX} {v : SY} (I : i_Rel k u v) (hk : k + 6 ≤ 3072) (v1 : Int32) : wpX_path (fun r => wpY_path (fun r' => r' = r ∧ i_Rel (k + 6) u v) v v1) u v1 := by
  have I' := i_up I
  obtain ⟨x_blocks, x_builtBlocks, x_edges, x_paths, x_runX, x_runY, x_runDone, x_ops, x_operands, x_kinds, x_targets, x_builtOps, x_builtOperands, x_builtKinds, x_firstEdge, x_edgeFrom, x_edgeExit, x_edgeTo, x_edgeWeight, x_inTree, x_isBack, x_beginsPaths, x_firstPath, x_pathsFrom, x_pathsBefore, x_counts, x_dumped, x_dumpKept, x_looked, x_joined, x_met, x_nextExit, x_way⟩ := u
  obtain ⟨y_made, y_blocks, y_edges, y_paths, y_many, y_lastX, y_lastY, y_lastBlocks, y_op, y_number, y_kind, y_target, y_from, y_to, y_exit, y_weight, y_firstEdge, y_tree, y_back, y_row, y_length, y_gone, y_done, y_went, y_cut, y_kept, y_mark, y_way, y_tried, y_stack⟩ := v
  obtain ⟨n, nb, ne, np, rfl, rfl, rfl, rfl, rfl, rfl, rfl, rfl, rfl, rfl, rfl, rfl, rfl, rfl, rfl, rfl, rfl, rfl, hD, hB, hC, hK, hP⟩ := I
  have hne := cd_ne hB
  by_cases hz : nb = 0
  · have hz2 := hP.1 hz
    subst hz2
    have e0 : ne = 0 := by omega
    unfold wpX_path wpX_isPath wpY_path
    dsimp only
    refine br_c (fun h => ?_) (fun h => ?_)
    · exact br_t rfl (pk_le ne 0 (fun _ => ⟨rfl, I'⟩) (fun z => absurd z (by omega)))
    · obtain ⟨j, hj, rfl⟩ := nI_of h
      exact pk_le 0 j (fun _ => br_t rfl (pk_le ne 0 (fun _ => ⟨rfl, I'⟩) (fun z => absurd z (by omega)))) (fun z => absurd z (by omega))
  · obtain ⟨ny, rfl, ho⟩ := cd_Pn hP (by omega) (by omega)
    unfold wpX_path wpX_isPath wpX_tooManyPaths wpY_path
    dsimp only
    have Y0 : (y_many = 0 → ∀ t : Nat, t < ny → ¬ v1 = nI t) → (((nI ne ≤ 0 → ((-1 : Int32) = -1 ∧ i_Rel (k + 6) ((nI n), (nI nb), (nI ne), (nI np), x_runX, x_runY, x_runDone, x_ops, x_operands, x_kinds, x_targets, x_builtOps, x_builtOperands, x_builtKinds, x_firstEdge, x_edgeFrom, x_edgeExit, x_edgeTo, x_edgeWeight, x_inTree, x_isBack, x_beginsPaths, x_firstPath, x_pathsFrom, x_pathsBefore, x_counts, x_dumped, x_dumpKept, x_looked, x_joined, x_met, x_nextExit, x_way) ((nI n), (nI nb), (nI ne), (nI ny), y_many, x_runX, x_runY, x_runDone, y_op, y_number, y_kind, y_target, x_edgeFrom, x_edgeTo, x_edgeExit, x_edgeWeight, x_firstEdge, x_inTree, x_isBack, y_row, y_length, y_gone, y_done, y_went, y_cut, x_dumpKept, y_mark, y_way, y_tried, y_stack))) ∧ (¬ nI ne ≤ 0 → (((y_many = 0 → (wpY_in (fun r_3 => (((r_3 = 0 → ((-1 : Int32) = -1 ∧ i_Rel (k + 6) ((nI n), (nI nb), (nI ne), (nI np), x_runX, x_runY, x_runDone, x_ops, x_operands, x_kinds, x_targets, x_builtOps, x_builtOperands, x_builtKinds, x_firstEdge, x_edgeFrom, x_edgeExit, x_edgeTo, x_edgeWeight, x_inTree, x_isBack, x_beginsPaths, x_firstPath, x_pathsFrom, x_pathsBefore, x_counts, x_dumped, x_dumpKept, x_looked, x_joined, x_met, x_nextExit, x_way) ((nI n), (nI nb), (nI ne), (nI ny), y_many, x_runX, x_runY, x_runDone, y_op, y_number, y_kind, y_target, x_edgeFrom, x_edgeTo, x_edgeExit, x_edgeWeight, x_firstEdge, x_inTree, x_isBack, y_row, y_length, y_gone, y_done, y_went, y_cut, x_dumpKept, y_mark, y_way, y_tried, y_stack))) ∧ (¬ r_3 = 0 → (vp_in v1 900 ∧ (y_went v1.toNatClampNeg = -1 ∧ i_Rel (k + 6) ((nI n), (nI nb), (nI ne), (nI np), x_runX, x_runY, x_runDone, x_ops, x_operands, x_kinds, x_targets, x_builtOps, x_builtOperands, x_builtKinds, x_firstEdge, x_edgeFrom, x_edgeExit, x_edgeTo, x_edgeWeight, x_inTree, x_isBack, x_beginsPaths, x_firstPath, x_pathsFrom, x_pathsBefore, x_counts, x_dumped, x_dumpKept, x_looked, x_joined, x_met, x_nextExit, x_way) ((nI n), (nI nb), (nI ne), (nI ny), y_many, x_runX, x_runY, x_runDone, y_op, y_number, y_kind, y_target, x_edgeFrom, x_edgeTo, x_edgeExit, x_edgeWeight, x_firstEdge, x_inTree, x_isBack, y_row, y_length, y_gone, y_done, y_went, y_cut, x_dumpKept, y_mark, y_way, y_tried, y_stack))))))) v1 0 (nI ny - 1))) ∧ (¬ y_many = 0 → ((-1 : Int32) = -1 ∧ i_Rel (k + 6) ((nI n), (nI nb), (nI ne), (nI np), x_runX, x_runY, x_runDone, x_ops, x_operands, x_kinds, x_targets, x_builtOps, x_builtOperands, x_builtKinds, x_firstEdge, x_edgeFrom, x_edgeExit, x_edgeTo, x_edgeWeight, x_inTree, x_isBack, x_beginsPaths, x_firstPath, x_pathsFrom, x_pathsBefore, x_counts, x_dumped, x_dumpKept, x_looked, x_joined, x_met, x_nextExit, x_way) ((nI n), (nI nb), (nI ne), (nI ny), y_many, x_runX, x_runY, x_runDone, y_op, y_number, y_kind, y_target, x_edgeFrom, x_edgeTo, x_edgeExit, x_edgeWeight, x_firstEdge, x_inTree, x_isBack, y_row, y_length, y_gone, y_done, y_went, y_cut, x_dumpKept, y_mark, y_way, y_tried, y_stack))))))) ) := fun hb =>
      pk_le ne 0 (fun z => absurd z (by omega)) (fun _ => br_c (fun hm => cd_yin rfl (by omega) (fun _ => br_t rfl ⟨rfl, I'⟩) (fun t ht e => absurd e (hb hm t ht))) (fun _ => ⟨rfl, I'⟩))
    refine br_c (fun h => ?_) (fun h => ?_)
    · refine br_t rfl (Y0 (fun _ t ht e => ?_))
      subst e; exact absurd h (nI_pos (by omega))
    · obtain ⟨j, hj, rfl⟩ := nI_of h
      have hnp : np < 1000000000 := by omega
      refine pk_le np j (fun h1 => ?_) (fun h1 => ?_)
      · refine br_t rfl (Y0 (fun hm t ht e => ?_))
        rw [nI_eq hj (by omega)] at e
        rcases ho with ho | ho
        · omega
        · exact ho.1 hm
      · refine pk_le np 300 (fun h3 => ?_) (fun h3 => ?_)
        · have ho' : y_many = 0 ∧ ny = np ∧ np ≤ 300 := by
            rcases ho with ho | ho
            · exact ho
            · omega
          have c : (49 : Int32) + nI j = nI (49 + j) := nI_add 49 j
          refine br_t rfl (br_f (by decide) ⟨pk_in (49 + j) 350 (by omega) c, pk_le ne 0 (fun z => absurd z (by omega)) (fun _ => br_t ho'.1 (cd_yin rfl (by omega) (fun hc => absurd rfl (hc j (by omega))) (fun t ht e => br_f (by decide) ⟨pk_in j 900 (by omega), ?_, I'⟩)))⟩)
          rw [c, nI_clamp hj, cd_cl (by omega)]
          exact hC.2.2.1 ho'.1 j (by omega)
        · refine br_f (by decide) (br_t rfl (Y0 (fun hm => ?_)))
          rcases ho with ho | ho
          · omega
          · exact absurd hm ho.1
theorem i_vc_covered {k : Nat} {u : SX} {v : SY} (I : i_Rel k u v) (hk : k + 6 ≤ 3072) (v1 : Int32) : wpX_covered (fun r => wpY_covered (fun r' => r' = r ∧ i_Rel (k + 6) u v) v v1) u v1 := by
  have I' := i_up I
  obtain ⟨x_blocks, x_builtBlocks, x_edges, x_paths, x_runX, x_runY, x_runDone, x_ops, x_operands, x_kinds, x_targets, x_builtOps, x_builtOperands, x_builtKinds, x_firstEdge, x_edgeFrom, x_edgeExit, x_edgeTo, x_edgeWeight, x_inTree, x_isBack, x_beginsPaths, x_firstPath, x_pathsFrom, x_pathsBefore, x_counts, x_dumped, x_dumpKept, x_looked, x_joined, x_met, x_nextExit, x_way⟩ := u
  obtain ⟨y_made, y_blocks, y_edges, y_paths, y_many, y_lastX, y_lastY, y_lastBlocks, y_op, y_number, y_kind, y_target, y_from, y_to, y_exit, y_weight, y_firstEdge, y_tree, y_back, y_row, y_length, y_gone, y_done, y_went, y_cut, y_kept, y_mark, y_way, y_tried, y_stack⟩ := v
  obtain ⟨n, nb, ne, np, rfl, rfl, rfl, rfl, rfl, rfl, rfl, rfl, rfl, rfl, rfl, rfl, rfl, rfl, rfl, rfl, rfl, rfl, hD, hB, hC, hK, hP⟩ := I
  have hne := cd_ne hB
  unfold wpX_covered wpY_covered
  dsimp only
  refine pk_eq nb 0 (fun hz => ?_) (fun hz => ?_)
  · exact pk_eq ne 0 (fun _ => ⟨rfl, I'⟩) (fun z => absurd z (by omega))
  obtain ⟨ny, rfl, ho⟩ := cd_Pn hP (by omega) (by omega)
  obtain ⟨m, rfl⟩ : ∃ m, ne = m + 1 := ⟨ne - 1, by omega⟩
  refine br_c (fun h => ?_) (fun h => ?_)
  · refine pk_eq (m + 1) 0 (fun z => absurd z (by omega)) (fun _ => cd_yin (n := 8) rfl (by omega) (fun _ => br_t rfl ⟨rfl, I'⟩) (fun t ht e => ?_))
    subst e; exact absurd h (nI_pos (by omega))
  obtain ⟨j, hj, rfl⟩ := nI_of h
  refine pk_lt 7 j (fun h7 => ?_) (fun h7 => ?_)
  · refine pk_eq (m + 1) 0 (fun z => absurd z (by omega)) (fun _ => cd_yin (n := 8) rfl (by omega) (fun _ => br_t rfl ⟨rfl, I'⟩) (fun t ht e => ?_))
    rw [nI_eq hj (by omega)] at e; omega
  have Q : ∀ {A B C : Prop} , C → ((nI (m + 1) = 0 → A) ∧ (¬ nI (m + 1) = 0 → wpY_in (fun r_2 => ((r_2 = 0 → B) ∧ (¬ r_2 = 0 → C))) (nI j) 0 7)) := fun hc => pk_eq (m + 1) 0 (fun z => absurd z (by omega)) (fun _ => cd_yin (n := 8) rfl (by omega) (fun hh => absurd rfl (hh j (by omega))) (fun t ht e => br_f (by decide) hc))
  refine pk_eq j 0 (fun e0 => Q ?_) (fun e0 => pk_eq j 1 (fun e1 => cd_xabove (s := 37) (m := nb) rfl rfl (by omega) (Q ?_)) (fun e1 => pk_eq j 2 (fun e2 => Q ?_) (fun e2 => pk_eq j 3 (fun e3 => cd_xabove (s := 0) (m := m) rfl (nI_pred m) (by omega) (Q ?_)) (fun e3 => pk_eq j 4 (fun e4 => ?_) (fun e4 => pk_eq j 5 (fun e5 => ?_) (fun e5 => pk_eq j 6 (fun e6 => cd_xprobes (by omega) (Q ?_)) (fun e6 => pk_eq j 7 (fun e7 => Q ?_) (fun e7 => trivial))))))))
  · exact br_f h (pk_lt 6 j (fun z => absurd z (by omega)) (fun _ => pk_eq j 0 (fun _ => ⟨rfl, I'⟩) (fun z => absurd e0 z)))
  · refine br_f h (pk_lt 6 j (fun z => absurd z (by omega)) (fun _ => pk_eq j 0 (fun z => absurd z e0) (fun _ => pk_eq j 1 (fun _ => cd_ycov71 (by omega) ⟨?_, I'⟩) (fun z => absurd e1 z))))
    exact congrArg nI (cd_ca_c (fun i hi => hC.2.1 i (by omega)))
  · exact br_f h (pk_lt 6 j (fun z => absurd z (by omega)) (fun _ => pk_eq j 0 (fun z => absurd z e0) (fun _ => pk_eq j 1 (fun z => absurd z e1) (fun _ => pk_eq j 2 (fun _ => ⟨rfl, I'⟩) (fun z => absurd e2 z)))))
  · refine br_f h (pk_lt 6 j (fun z => absurd z (by omega)) (fun _ => pk_eq j 0 (fun z => absurd z e0) (fun _ => pk_eq j 1 (fun z => absurd z e1) (fun _ => pk_eq j 2 (fun z => absurd z e2) (fun _ => pk_eq j 3 (fun _ => cd_ycov108 (by omega) ⟨?_, I'⟩) (fun z => absurd e3 z))))))
    exact congrArg nI (cd_ca_c (fun i hi => (hC.1 i (by omega)).trans (congrArg x_counts (by omega))))
  · unfold wpX_tooManyPaths
    dsimp only
    refine pk_le np 300 (fun h3 => br_t rfl (Q ?_)) (fun h3 => br_f (by decide) (Q ?_))
    · have ho' : y_many = 0 ∧ ny = np ∧ np ≤ 300 := by
        rcases ho with ho | ho
        · exact ho
        · omega
      exact br_f h (pk_lt 6 j (fun z => absurd z (by omega)) (fun _ => pk_eq j 0 (fun z => absurd z e0) (fun _ => pk_eq j 1 (fun z => absurd z e1) (fun _ => pk_eq j 2 (fun z => absurd z e2) (fun _ => pk_eq j 3 (fun z => absurd z e3) (fun _ => pk_eq j 4 (fun _ => br_t ho'.1 ⟨congrArg nI ho'.2.1, I'⟩) (fun z => absurd e4 z)))))))
    · have ho' : ¬ y_many = 0 := by
        rcases ho with ho | ho
        · omega
        · exact ho.1
      exact br_f h (pk_lt 6 j (fun z => absurd z (by omega)) (fun _ => pk_eq j 0 (fun z => absurd z e0) (fun _ => pk_eq j 1 (fun z => absurd z e1) (fun _ => pk_eq j 2 (fun z => absurd z e2) (fun _ => pk_eq j 3 (fun z => absurd z e3) (fun _ => pk_eq j 4 (fun _ => br_f ho' ⟨rfl, I'⟩) (fun z => absurd e4 z)))))))
  · unfold wpX_tooManyPaths
    dsimp only
    refine pk_le np 300 (fun h3 => br_t rfl (cd_xabove (s := 49) (m := np) rfl rfl (by omega) (Q ?_))) (fun h3 => br_f (by decide) (Q ?_))
    · have ho' : y_many = 0 ∧ ny = np ∧ np ≤ 300 := by
        rcases ho with ho | ho
        · exact ho
        · omega
      refine br_f h (pk_lt 6 j (fun z => absurd z (by omega)) (fun _ => pk_eq j 0 (fun z => absurd z e0) (fun _ => pk_eq j 1 (fun z => absurd z e1) (fun _ => pk_eq j 2 (fun z => absurd z e2) (fun _ => pk_eq j 3 (fun z => absurd z e3) (fun _ => pk_eq j 4 (fun z => absurd z e4) (fun _ => pk_eq j 5 (fun _ => cd_ycov157 (by omega) (br_t ho'.1 ⟨?_, I'⟩)) (fun z => absurd e5 z))))))))
      rw [ho'.2.1]
      exact congrArg nI (cd_ca_c (fun i hi => hC.2.2.1 ho'.1 i (by omega)))
    · have ho' : ¬ y_many = 0 := by
        rcases ho with ho | ho
        · omega
        · exact ho.1
      exact br_f h (pk_lt 6 j (fun z => absurd z (by omega)) (fun _ => pk_eq j 0 (fun z => absurd z e0) (fun _ => pk_eq j 1 (fun z => absurd z e1) (fun _ => pk_eq j 2 (fun z => absurd z e2) (fun _ => pk_eq j 3 (fun z => absurd z e3) (fun _ => pk_eq j 4 (fun z => absurd z e4) (fun _ => pk_eq j 5 (fun _ => cd_ycov157 (by omega) (br_f ho' ⟨rfl, I'⟩)) (fun z => absurd e5 z))))))))
  · exact br_f h (pk_lt 6 j (fun z => absurd z (by omega)) (fun _ => pk_eq j 0 (fun z => absurd z e0) (fun _ => pk_eq j 1 (fun z => absurd z e1) (fun _ => pk_eq j 2 (fun z => absurd z e2) (fun _ => pk_eq j 3 (fun z => absurd z e3) (fun _ => pk_eq j 4 (fun z => absurd z e4) (fun _ => pk_eq j 5 (fun z => absurd z e5) (fun _ => pk_eq j 6 (fun _ => cd_ycov199 (by omega) ⟨rfl, I'⟩) (fun z => absurd e6 z)))))))))
  · exact br_f h (pk_lt 6 j (fun _ => ⟨hC.2.2.2, I'⟩) (fun z => absurd z (by omega)))
end
section
section
variable {x_blocks x_builtBlocks x_edges x_paths x_runX x_runY x_runDone : Int32} {x_ops x_operands x_kinds x_targets x_builtOps x_builtOperands x_builtKinds x_firstEdge x_edgeFrom x_edgeExit x_edgeTo x_edgeWeight x_inTree x_isBack x_beginsPaths x_firstPath x_pathsFrom x_pathsBefore x_counts x_dumped x_dumpKept x_looked x_joined x_met x_nextExit x_way : Nat → Int32} {y_made y_blocks y_edges y_paths y_many y_lastX y_lastY y_lastBlocks : Int32} {y_op y_number y_kind y_target y_from y_to y_exit y_weight y_firstEdge y_tree y_back y_row y_length y_gone y_done y_went y_cut y_kept y_mark y_way y_tried y_stack : Nat → Int32}
theorem cd_xdump {post : Int32 → SX → Prop} {d : Nat} (hd : d < 2) (hp : post 1 (x_blocks, x_builtBlocks, x_edges, x_paths, x_runX, x_runY, x_runDone, x_ops, x_operands, x_kinds, x_targets, x_builtOps, x_builtOperands, x_builtKinds, x_firstEdge, x_edgeFrom, x_edgeExit, x_edgeTo, x_edgeWeight, x_inTree, x_isBack, x_beginsPaths, x_firstPath, x_pathsFrom, x_pathsBefore, (cd_fo x_counts 0 350 (fun _ => 0)), (cd_fo x_dumped (350 * d) 350 x_counts), (upd x_dumpKept d 1), x_looked, x_joined, x_met, x_nextExit, x_way)) : ∃ n, wX_dump_26 post (nI d) (nI (350 * d)) x_blocks x_builtBlocks x_edges x_paths x_runX x_runY x_runDone n 0 x_ops x_operands x_kinds x_targets x_builtOps x_builtOperands x_builtKinds x_firstEdge x_edgeFrom x_edgeExit x_edgeTo x_edgeWeight x_inTree x_isBack x_beginsPaths x_firstPath x_pathsFrom x_pathsBefore x_counts x_dumped x_dumpKept x_looked x_joined x_met x_nextExit x_way :=
  cd_loop (fun n i => wX_dump_26 post (nI d) (nI (350 * d)) x_blocks x_builtBlocks x_edges x_paths x_runX x_runY x_runDone n (nI i) x_ops x_operands x_kinds x_targets x_builtOps x_builtOperands x_builtKinds x_firstEdge x_edgeFrom x_edgeExit x_edgeTo x_edgeWeight x_inTree x_isBack x_beginsPaths x_firstPath x_pathsFrom x_pathsBefore x_counts (cd_fo x_dumped (350 * d) i x_counts) x_dumpKept x_looked x_joined x_met x_nextExit x_way) 350
    (fun n => pk_le 350 350 (fun _ => ⟨pk_in d 2 hd, nm_r (congrArg (fun q => upd x_dumpKept q 1) (cd_cl (by omega))) (cd_xzero hp)⟩) (fun h => absurd h (by omega)))
    (fun n i hi hn => pk_le 350 i (fun h => absurd h (by omega)) (fun h => ⟨pk_in i 350 hi, pk_in (350 * d + i) 700 (by omega) (nI_add _ _), nm_r (cd_fo_u (nI_add _ _) (by omega) (congrArg x_counts (cd_cl (by omega)))) (nm_r (nI_1 i) hn)⟩))
theorem cd_xmerge {post : Int32 → SX → Prop} {d : Nat} (hd : d < 2) (hp : post 1 (x_blocks, x_builtBlocks, x_edges, x_paths, x_runX, x_runY, x_runDone, x_ops, x_operands, x_kinds, x_targets, x_builtOps, x_builtOperands, x_builtKinds, x_firstEdge, x_edgeFrom, x_edgeExit, x_edgeTo, x_edgeWeight, x_inTree, x_isBack, x_beginsPaths, x_firstPath, x_pathsFrom, x_pathsBefore, (cd_fo x_counts 0 350 (fun i => x_counts i + x_dumped (350 * d + i))), x_dumped, x_dumpKept, x_looked, x_joined, x_met, x_nextExit, x_way)) : ∃ n, wX_merge_53 post (nI (350 * d)) x_blocks x_builtBlocks x_edges x_paths x_runX x_runY x_runDone n 0 x_ops x_operands x_kinds x_targets x_builtOps x_builtOperands x_builtKinds x_firstEdge x_edgeFrom x_edgeExit x_edgeTo x_edgeWeight x_inTree x_isBack x_beginsPaths x_firstPath x_pathsFrom x_pathsBefore x_counts x_dumped x_dumpKept x_looked x_joined x_met x_nextExit x_way :=
  cd_loop (fun n i => wX_merge_53 post (nI (350 * d)) x_blocks x_builtBlocks x_edges x_paths x_runX x_runY x_runDone n (nI i) x_ops x_operands x_kinds x_targets x_builtOps x_builtOperands x_builtKinds x_firstEdge x_edgeFrom x_edgeExit x_edgeTo x_edgeWeight x_inTree x_isBack x_beginsPaths x_firstPath x_pathsFrom x_pathsBefore (cd_fo x_counts 0 i (fun i => x_counts i + x_dumped (350 * d + i))) x_dumped x_dumpKept x_looked x_joined x_met x_nextExit x_way) 350
    (fun n => pk_le 350 350 (fun _ => hp) (fun h => absurd h (by omega)))
    (fun n i hi hn => pk_le 350 i (fun h => absurd h (by omega)) (fun h => ⟨pk_in i 350 hi, pk_in (350 * d + i) 700 (by omega) (nI_add _ _), pk_in i 350 hi, nm_r (cd_fo_z (by omega) (by rw [nI_add, cd_cl (by omega), cd_cl (by omega), cd_fo_out (by omega)])) (nm_r (nI_1 i) hn)⟩))
theorem cd_ydump {post : Int32 → SY → Prop} {d : Nat} (hd : d < 2) (hp : post 1 (y_made, y_blocks, y_edges, y_paths, y_many, y_lastX, y_lastY, y_lastBlocks, y_op, y_number, y_kind, y_target, y_from, y_to, y_exit, y_weight, y_firstEdge, y_tree, y_back, y_row, y_length, (cd_fo (cd_fo y_gone (37 + 37 * d) 37 y_gone) 0 37 (fun _ => 0)), (cd_fo (cd_fo y_done (12 + 12 * d) 12 y_done) 0 12 (fun _ => 0)), (cd_fo (cd_fo y_went (300 + 300 * d) 300 y_went) 0 300 (fun _ => 0)), (upd (upd y_cut (1 + d) (y_cut 0)) 0 0), (upd y_kept d 1), y_mark, y_way, y_tried, y_stack)) : ∃ n, wY_dump_20 post (nI d) y_made y_blocks y_edges y_paths y_many y_lastX y_lastY y_lastBlocks n 0 y_op y_number y_kind y_target y_from y_to y_exit y_weight y_firstEdge y_tree y_back y_row y_length y_gone y_done y_went y_cut y_kept y_mark y_way y_tried y_stack := by
  have e1 : ∀ i : Nat, 37 + 37 * nI d + nI i = nI (37 + 37 * d + i) := fun i => by rw [show (37 : Int32) = nI 37 from rfl, pk_mul, nI_add, nI_add]
  have e2 : ∀ i : Nat, 12 + 12 * nI d + nI i = nI (12 + 12 * d + i) := fun i => by rw [show (12 : Int32) = nI 12 from rfl, pk_mul, nI_add, nI_add]
  have e3 : ∀ i : Nat, 300 + 300 * nI d + nI i = nI (300 + 300 * d + i) := fun i => by rw [show (300 : Int32) = nI 300 from rfl, pk_mul, nI_add, nI_add]
  have e4 : 1 + nI d = nI (1 + d) := nI_add 1 d
  exact cd_loop (fun n i => wY_dump_20 post (nI d) y_made y_blocks y_edges y_paths y_many y_lastX y_lastY y_lastBlocks n (nI i) y_op y_number y_kind y_target y_from y_to y_exit y_weight y_firstEdge y_tree y_back y_row y_length (cd_fo y_gone (37 + 37 * d) i y_gone) y_done y_went y_cut y_kept y_mark y_way y_tried y_stack) 37
    (fun n => pk_le 37 37 (fun _ => 
      cd_loop (fun n i => wY_dump_54 post (nI d) y_made y_blocks y_edges y_paths y_many y_lastX y_lastY y_lastBlocks n (nI i) y_op y_number y_kind y_target y_from y_to y_exit y_weight y_firstEdge y_tree y_back y_row y_length (cd_fo y_gone (37 + 37 * d) 37 y_gone) (cd_fo y_done (12 + 12 * d) i y_done) y_went y_cut y_kept y_mark y_way y_tried y_stack) 12
        (fun n => pk_le 12 12 (fun _ => 
          cd_loop (fun n i => wY_dump_88 post (nI d) y_made y_blocks y_edges y_paths y_many y_lastX y_lastY y_lastBlocks n (nI i) y_op y_number y_kind y_target y_from y_to y_exit y_weight y_firstEdge y_tree y_back y_row y_length (cd_fo y_gone (37 + 37 * d) 37 y_gone) (cd_fo y_done (12 + 12 * d) 12 y_done) (cd_fo y_went (300 + 300 * d) i y_went) y_cut y_kept y_mark y_way y_tried y_stack) 300
            (fun n => pk_le 300 300 (fun _ => ⟨pk_in (1 + d) 3 (by omega) e4, nm_r (congrArg (fun q => upd y_cut q (y_cut 0)) (pk_cl (1 + d) e4)) ⟨pk_in d 2 hd, nm_r (congrArg (fun q => upd y_kept q 1) (cd_cl (by omega))) (cd_yempty hp)⟩⟩) (fun h => absurd h (by omega)))
            (fun n i hi hn => pk_le 300 i (fun h => absurd h (by omega)) (fun h => ⟨pk_in i 900 (by omega), pk_in (300 + 300 * d + i) 900 (by omega) (e3 i), nm_r (cd_fo_u (e3 i) (by omega) (by rw [cd_cl (by omega), cd_fo_out (by omega)])) (nm_r (nI_1 i) hn)⟩)))
          (fun h => absurd h (by omega)))
        (fun n i hi hn => pk_le 12 i (fun h => absurd h (by omega)) (fun h => ⟨pk_in i 36 (by omega), pk_in (12 + 12 * d + i) 36 (by omega) (e2 i), nm_r (cd_fo_u (e2 i) (by omega) (by rw [cd_cl (by omega), cd_fo_out (by omega)])) (nm_r (nI_1 i) hn)⟩)))
      (fun h => absurd h (by omega)))
    (fun n i hi hn => pk_le 37 i (fun h => absurd h (by omega)) (fun h => ⟨pk_in i 111 (by omega), pk_in (37 + 37 * d + i) 111 (by omega) (e1 i), nm_r (cd_fo_u (e1 i) (by omega) (by rw [cd_cl (by omega), cd_fo_out (by omega)])) (nm_r (nI_1 i) hn)⟩))
theorem cd_ymerge {post : Int32 → SY → Prop} {d : Nat} (hd : d < 2) (hp : post 1 (y_made, y_blocks, y_edges, y_paths, y_many, y_lastX, y_lastY, y_lastBlocks, y_op, y_number, y_kind, y_target, y_from, y_to, y_exit, y_weight, y_firstEdge, y_tree, y_back, y_row, y_length, (cd_fo y_gone 0 37 (fun i => y_gone i + y_gone (37 + 37 * d + i))), (cd_fo y_done 0 12 (fun i => y_done i + y_done (12 + 12 * d + i))), (cd_fo y_went 0 300 (fun i => y_went i + y_went (300 + 300 * d + i))), (upd y_cut 0 (y_cut 0 + y_cut (1 + d))), y_kept, y_mark, y_way, y_tried, y_stack)) : ∃ n, wY_merge_56 post (nI d) y_made y_blocks y_edges y_paths y_many y_lastX y_lastY y_lastBlocks n 0 y_op y_number y_kind y_target y_from y_to y_exit y_weight y_firstEdge y_tree y_back y_row y_length y_gone y_done y_went y_cut y_kept y_mark y_way y_tried y_stack := by
  have e1 : ∀ i : Nat, 37 + 37 * nI d + nI i = nI (37 + 37 * d + i) := fun i => by rw [show (37 : Int32) = nI 37 from rfl, pk_mul, nI_add, nI_add]
  have e2 : ∀ i : Nat, 12 + 12 * nI d + nI i = nI (12 + 12 * d + i) := fun i => by rw [show (12 : Int32) = nI 12 from rfl, pk_mul, nI_add, nI_add]
  have e3 : ∀ i : Nat, 300 + 300 * nI d + nI i = nI (300 + 300 * d + i) := fun i => by rw [show (300 : Int32) = nI 300 from rfl, pk_mul, nI_add, nI_add]
  have e4 : 1 + nI d = nI (1 + d) := nI_add 1 d
  exact cd_loop (fun n i => wY_merge_56 post (nI d) y_made y_blocks y_edges y_paths y_many y_lastX y_lastY y_lastBlocks n (nI i) y_op y_number y_kind y_target y_from y_to y_exit y_weight y_firstEdge y_tree y_back y_row y_length (cd_fo y_gone 0 i (fun i => y_gone i + y_gone (37 + 37 * d + i))) y_done y_went y_cut y_kept y_mark y_way y_tried y_stack) 37
    (fun n => pk_le 37 37 (fun _ => 
      cd_loop (fun n i => wY_merge_93 post (nI d) y_made y_blocks y_edges y_paths y_many y_lastX y_lastY y_lastBlocks n (nI i) y_op y_number y_kind y_target y_from y_to y_exit y_weight y_firstEdge y_tree y_back y_row y_length (cd_fo y_gone 0 37 (fun i => y_gone i + y_gone (37 + 37 * d + i))) (cd_fo y_done 0 i (fun i => y_done i + y_done (12 + 12 * d + i))) y_went y_cut y_kept y_mark y_way y_tried y_stack) 12
        (fun n => pk_le 12 12 (fun _ => 
          cd_loop (fun n i => wY_merge_130 post (nI d) y_made y_blocks y_edges y_paths y_many y_lastX y_lastY y_lastBlocks n (nI i) y_op y_number y_kind y_target y_from y_to y_exit y_weight y_firstEdge y_tree y_back y_row y_length (cd_fo y_gone 0 37 (fun i => y_gone i + y_gone (37 + 37 * d + i))) (cd_fo y_done 0 12 (fun i => y_done i + y_done (12 + 12 * d + i))) (cd_fo y_went 0 i (fun i => y_went i + y_went (300 + 300 * d + i))) y_cut y_kept y_mark y_way y_tried y_stack) 300
            (fun n => pk_le 300 300 (fun _ => ⟨pk_in (1 + d) 3 (by omega) e4, nm_r (congrArg (fun q => upd y_cut 0 (y_cut 0 + y_cut q)) (pk_cl (1 + d) e4)) hp⟩) (fun h => absurd h (by omega)))
            (fun n i hi hn => pk_le 300 i (fun h => absurd h (by omega)) (fun h => ⟨pk_in i 900 (by omega), pk_in (300 + 300 * d + i) 900 (by omega) (e3 i), pk_in i 900 (by omega), nm_r (cd_fo_z (by omega) (by rw [e3, cd_cl (by omega), cd_cl (by omega), cd_fo_out (by omega), cd_fo_out (by omega)])) (nm_r (nI_1 i) hn)⟩)))
          (fun h => absurd h (by omega)))
        (fun n i hi hn => pk_le 12 i (fun h => absurd h (by omega)) (fun h => ⟨pk_in i 36 (by omega), pk_in (12 + 12 * d + i) 36 (by omega) (e2 i), pk_in i 36 (by omega), nm_r (cd_fo_z (by omega) (by rw [e2, cd_cl (by omega), cd_cl (by omega), cd_fo_out (by omega), cd_fo_out (by omega)])) (nm_r (nI_1 i) hn)⟩)))
      (fun h => absurd h (by omega)))
    (fun n i hi hn => pk_le 37 i (fun h => absurd h (by omega)) (fun h => ⟨pk_in i 111 (by omega), pk_in (37 + 37 * d + i) 111 (by omega) (e1 i), pk_in i 111 (by omega), nm_r (cd_fo_z (by omega) (by rw [e1, cd_cl (by omega), cd_cl (by omega), cd_fo_out (by omega), cd_fo_out (by omega)])) (nm_r (nI_1 i) hn)⟩))
end
/-- counts of zero -/
theorem cd_C0 {mn : Int32} {cn gone done went cut cut0 : Nat → Int32} : cd_C mn (cd_fo cn 0 350 (fun _ => 0)) (cd_fo gone 0 37 (fun _ => 0)) (cd_fo done 0 12 (fun _ => 0)) (cd_fo went 0 300 (fun _ => 0)) (upd cut 0 0) := by
  refine ⟨fun e he => ?_, fun b hb => ?_, fun _ p hp => ?_, ?_⟩
  · rw [cd_fo_in (by omega) (by omega), cd_fo_in (by omega) (by omega)]
  · rw [cd_fo_in (by omega) (by omega), cd_fo_in (by omega) (by omega)]
  · rw [cd_fo_in (by omega) (by omega), cd_fo_in (by omega) (by omega)]
  · rw [cd_fo_in (by omega) (by omega)]; exact pk_us
theorem cd_Kdump {mn : Int32} {ne d : Nat} {cn dm dk gone done went cut : Nat → Int32} (hne : 0 < ne) (hd : d < 2) (hC : cd_C mn cn gone done went cut) (hK : cd_K mn ne dm dk gone done went cut) :
    cd_K mn ne (cd_fo dm (350 * d) 350 cn) (upd dk d 1) (cd_fo (cd_fo gone (37 + 37 * d) 37 gone) 0 37 (fun _ => 0)) (cd_fo (cd_fo done (12 + 12 * d) 12 done) 0 12 (fun _ => 0)) (cd_fo (cd_fo went (300 + 300 * d) 300 went) 0 300 (fun _ => 0)) (upd (upd cut (1 + d) (cut 0)) 0 0) := by
  intro c hc hk
  by_cases e : c = d
  · subst e
    refine ⟨hne, fun e he => ?_, fun b hb => ?_, fun hm p hp => ?_, ?_⟩
    · rw [cd_fo_out (by omega), cd_fo_k he, cd_fo_k (by omega)]; exact hC.1 e he
    · rw [cd_fo_out (by omega), cd_fo_k hb, cd_fo_k (by omega)]; exact hC.2.1 b hb
    · rw [cd_fo_out (by omega), cd_fo_k hp, cd_fo_k (by omega)]; exact hC.2.2.1 hm p hp
    · rw [pk_un (by omega), pk_us, cd_fo_k (by omega)]; exact hC.2.2.2
  · rw [pk_un e] at hk
    obtain ⟨k0, k1, k2, k3, k4⟩ := hK c hc hk
    refine ⟨hne, fun e he => ?_, fun b hb => ?_, fun hm p hp => ?_, ?_⟩
    · rw [cd_fo_out (by omega), cd_fo_out (by omega), cd_fo_out (by omega)]; exact k1 e he
    · rw [cd_fo_out (by omega), cd_fo_out (by omega), cd_fo_out (by omega)]; exact k2 b hb
    · rw [cd_fo_out (by omega), cd_fo_out (by omega), cd_fo_out (by omega)]; exact k3 hm p hp
    · rw [pk_un (by omega), pk_un (by omega), cd_fo_out (by omega)]; exact k4
theorem cd_Cmerge {mn : Int32} {ne d : Nat} {cn dm dk gone done went cut : Nat → Int32} (hd : d < 2) (hk : dk d ≠ 0) (hC : cd_C mn cn gone done went cut) (hK : cd_K mn ne dm dk gone done went cut) :
    cd_C mn (cd_fo cn 0 350 (fun i => cn i + dm (350 * d + i))) (cd_fo gone 0 37 (fun i => gone i + gone (37 + 37 * d + i))) (cd_fo done 0 12 (fun i => done i + done (12 + 12 * d + i))) (cd_fo went 0 300 (fun i => went i + went (300 + 300 * d + i))) (upd cut 0 (cut 0 + cut (1 + d))) := by
  obtain ⟨k0, k1, k2, k3, k4⟩ := hK d hd hk
  refine ⟨fun e he => ?_, fun b hb => ?_, fun hm p hp => ?_, ?_⟩
  · rw [cd_fo_in (by omega) (by omega), cd_fo_in (by omega) (by omega)]
    show gone e + gone (37 + 37 * d + e) = cn e + dm (350 * d + e)
    rw [hC.1 e he, k1 e he]
  · rw [cd_fo_in (by omega) (by omega), cd_fo_in (by omega) (by omega)]
    show done b + done (12 + 12 * d + b) = cn (37 + b) + dm (350 * d + (37 + b))
    rw [hC.2.1 b hb, k2 b hb]
  · rw [cd_fo_in (by omega) (by omega), cd_fo_in (by omega) (by omega)]
    show went p + went (300 + 300 * d + p) = cn (49 + p) + dm (350 * d + (49 + p))
    rw [hC.2.2.1 hm p hp, k3 hm p hp]
  · rw [cd_fo_in (by omega) (by omega), pk_us]
    show cut 0 + cut (1 + d) = cn 349 + dm (350 * d + 349)
    rw [hC.2.2.2, k4]
theorem cd_Kmerge {mn : Int32} {ne d : Nat} {dm dk gone done went cut : Nat → Int32} {f g h : Nat → Int32} {z : Int32} (hK : cd_K mn ne dm dk gone done went cut) :
    cd_K mn ne dm dk (cd_fo gone 0 37 f) (cd_fo done 0 12 g) (cd_fo went 0 300 h) (upd cut 0 z) := by
  intro c hc hk
  obtain ⟨k0, k1, k2, k3, k4⟩ := hK c hc hk
  refine ⟨k0, fun e he => ?_, fun b hb => ?_, fun hm p hp => ?_, ?_⟩
  · rw [cd_fo_out (by omega)]; exact k1 e he
  · rw [cd_fo_out (by omega)]; exact k2 b hb
  · rw [cd_fo_out (by omega)]; exact k3 hm p hp
  · rw [pk_un (by omega)]; exact k4
theorem i_vc_dump {k : Nat} {u : SX} {v : SY} (I : i_Rel k u v) (hk : k + 6 ≤ 3072) (v1 : Int32) : wpX_dump (fun r u' => wpY_dump (fun r' v' => r' = r ∧ i_Rel (k + 6) u' v') v v1) u v1 := by
  have I' := i_up I
  obtain ⟨x_blocks, x_builtBlocks, x_edges, x_paths, x_runX, x_runY, x_runDone, x_ops, x_operands, x_kinds, x_targets, x_builtOps, x_builtOperands, x_builtKinds, x_firstEdge, x_edgeFrom, x_edgeExit, x_edgeTo, x_edgeWeight, x_inTree, x_isBack, x_beginsPaths, x_firstPath, x_pathsFrom, x_pathsBefore, x_counts, x_dumped, x_dumpKept, x_looked, x_joined, x_met, x_nextExit, x_way⟩ := u
  obtain ⟨y_made, y_blocks, y_edges, y_paths, y_many, y_lastX, y_lastY, y_lastBlocks, y_op, y_number, y_kind, y_target, y_from, y_to, y_exit, y_weight, y_firstEdge, y_tree, y_back, y_row, y_length, y_gone, y_done, y_went, y_cut, y_kept, y_mark, y_way, y_tried, y_stack⟩ := v
  obtain ⟨n, nb, ne, np, rfl, rfl, rfl, rfl, rfl, rfl, rfl, rfl, rfl, rfl, rfl, rfl, rfl, rfl, rfl, rfl, rfl, rfl, hD, hB, hC, hK, hP⟩ := I
  have hne := cd_ne hB
  unfold wpX_dump wpY_dump
  dsimp only
  refine br_c (fun h => ?_) (fun h => ?_)
  · refine cd_yin (n := 2) rfl (by omega) (fun _ => br_t rfl ⟨rfl, I'⟩) (fun t ht e => ?_)
    subst e; exact absurd h (nI_pos (by omega))
  obtain ⟨d, hd, rfl⟩ := nI_of h
  refine pk_le 2 d (fun h2 => ?_) (fun h2 => ?_)
  · refine cd_yin (n := 2) rfl (by omega) (fun _ => br_t rfl ⟨rfl, I'⟩) (fun t ht e => ?_)
    rw [nI_eq hd (by omega)] at e; omega
  refine pk_eq nb 0 (fun hz => ?_) (fun hz => ?_)
  · exact cd_yin (n := 2) rfl (by omega) (fun _ => br_t rfl ⟨rfl, I'⟩) (fun t ht e => br_f (by decide) (pk_eq ne 0 (fun _ => ⟨rfl, I'⟩) (fun z => absurd z (by omega))))
  refine nm_r (e' := nI (350 * d)) (by rw [show (350 : Int32) = nI 350 from rfl, pk_mul, Nat.mul_comm]) (cd_xdump h2 ?_)
  refine cd_yin (n := 2) rfl (by omega) (fun hc => absurd rfl (hc d h2)) (fun t ht e => br_f (by decide) (pk_eq ne 0 (fun z => absurd z (by omega)) (fun _ => cd_ydump h2 ⟨rfl, ?_⟩)))
  exact cd_mk n nb ne np hD hB (cd_C0 (cut0 := y_cut)) (cd_Kdump (by omega) h2 hC hK) hP
theorem i_vc_merge {k : Nat} {u : SX} {v : SY} (I : i_Rel k u v) (hk : k + 6 ≤ 3072) (v1 : Int32) : wpX_merge (fun r u' => wpY_merge (fun r' v' => r' = r ∧ i_Rel (k + 6) u' v') v v1) u v1 := by
  have I' := i_up I
  obtain ⟨x_blocks, x_builtBlocks, x_edges, x_paths, x_runX, x_runY, x_runDone, x_ops, x_operands, x_kinds, x_targets, x_builtOps, x_builtOperands, x_builtKinds, x_firstEdge, x_edgeFrom, x_edgeExit, x_edgeTo, x_edgeWeight, x_inTree, x_isBack, x_beginsPaths, x_firstPath, x_pathsFrom, x_pathsBefore, x_counts, x_dumped, x_dumpKept, x_looked, x_joined, x_met, x_nextExit, x_way⟩ := u
  obtain ⟨y_made, y_blocks, y_edges, y_paths, y_many, y_lastX, y_lastY, y_lastBlocks, y_op, y_number, y_kind, y_target, y_from, y_to, y_exit, y_weight, y_firstEdge, y_tree, y_back, y_row, y_length, y_gone, y_done, y_went, y_cut, y_kept, y_mark, y_way, y_tried, y_stack⟩ := v
  obtain ⟨n, nb, ne, np, rfl, rfl, rfl, rfl, rfl, rfl, rfl, rfl, rfl, rfl, rfl, rfl, rfl, rfl, rfl, rfl, rfl, rfl, hD, hB, hC, hK, hP⟩ := I
  have hne := cd_ne hB
  unfold wpX_merge wpX_runs wpY_merge
  dsimp only
  refine br_c (fun h => ?_) (fun h => ?_)
  · refine cd_yin (n := 2) rfl (by omega) (fun _ => br_t rfl ⟨rfl, I'⟩) (fun t ht e => ?_)
    subst e; exact absurd h (nI_pos (by omega))
  obtain ⟨d, hd, rfl⟩ := nI_of h
  have cd := nI_clamp hd
  refine pk_le 2 d (fun h2 => ?_) (fun h2 => ⟨pk_in d 2 h2, ?_⟩)
  · refine cd_yin (n := 2) rfl (by omega) (fun _ => br_t rfl ⟨rfl, I'⟩) (fun t ht e => ?_)
    rw [nI_eq hd (by omega)] at e; omega
  refine br_c (fun hz => ?_) (fun hz => ?_)
  · exact cd_yin (n := 2) rfl (by omega) (fun _ => br_t rfl ⟨rfl, I'⟩) (fun t ht e => br_f (by decide) ⟨pk_in d 2 h2, br_t hz ⟨rfl, I'⟩⟩)
  have hz' : x_dumpKept d ≠ 0 := by rw [cd] at hz; exact hz
  obtain ⟨k0, k1, k2, k3, k4⟩ := hK d h2 hz'
  obtain ⟨m, rfl⟩ : ∃ m, ne = m + 1 := ⟨ne - 1, by omega⟩
  refine nm_r (e' := nI (350 * d)) (by rw [show (350 : Int32) = nI 350 from rfl, pk_mul, Nat.mul_comm]) ?_
  have e1 : nI (350 * d) + nI (m + 1) - 1 = nI (350 * d + m) := by rw [nI_add, ← Nat.add_assoc, nI_pred]
  have e2 : 36 + 37 * nI d + nI (m + 1) = nI (37 + 37 * d + m) := by
    rw [show (37 : Int32) = nI 37 from rfl, show (36 : Int32) = nI 36 from rfl, pk_mul, nI_add, nI_add]
    exact congrArg nI (by omega)
  have e3 : nI (m + 1) - 1 = nI m := nI_pred m
  refine pk_eq (m + 1) 0 (fun z => absurd z (by omega)) (fun _ => ⟨pk_in m 350 (by omega) e3, pk_in (350 * d + m) 700 (by omega) e1, ?_⟩)
  have E : x_counts (nI (m + 1) - 1).toNatClampNeg + x_dumped (nI (350 * d) + nI (m + 1) - 1).toNatClampNeg = y_gone (nI (m + 1) - 1).toNatClampNeg + y_gone (36 + 37 * nI d + nI (m + 1)).toNatClampNeg := by
    rw [e1, e2, e3, cd_cl (by omega), cd_cl (by omega), cd_cl (by omega), hC.1 m (by omega), k1 m (by omega)]
  refine br_c (fun hs => cd_xmerge h2 ?_) (fun hs => ?_)
  · rw [E] at hs
    refine cd_yin (n := 2) rfl (by omega) (fun hc => absurd rfl (hc d h2)) (fun t ht e => br_f (by decide) ⟨pk_in d 2 h2, br_f hz ⟨pk_in m 111 (by omega) e3, pk_in (37 + 37 * d + m) 111 (by omega) e2, br_t hs (cd_ymerge h2 ⟨rfl, ?_⟩)⟩⟩)
    exact cd_mk n nb (m + 1) np hD hB (cd_Cmerge h2 hz' hC hK) (cd_Kmerge (d := d) hK) hP
  · rw [E] at hs
    exact cd_yin (n := 2) rfl (by omega) (fun hc => absurd rfl (hc d h2)) (fun t ht e => br_f (by decide) ⟨pk_in d 2 h2, br_f hz ⟨pk_in m 111 (by omega) e3, pk_in (37 + 37 * d + m) 111 (by omega) e2, br_f hs ⟨rfl, I'⟩⟩⟩)
end
section
theorem cd_upd_id {a : Nat → Int32} {p : Nat} {v : Int32} (h : v = a p) : upd a p v = a := by
  funext j
  unfold upd
  by_cases e : j = p
  · subst e; rw [if_pos rfl]; exact h
  · rw [if_neg e]
/-- the place of an edge's end -/
def cd_pl (x : Int32) : Nat := if x = -1 then 12 else x.toNatClampNeg
/-- one edge looked at: looked, joined, inTree -/
def cd_ks (fr to : Nat → Int32) (e : Nat) (s : (Nat → Int32) × (Nat → Int32) × (Nat → Int32)) : (Nat → Int32) × (Nat → Int32) × (Nat → Int32) :=
  (upd s.1 e 1, cd_fo s.2.1 0 13 (fun p => if s.2.1 p = s.2.1 (cd_pl (fr e)) then s.2.1 (cd_pl (to e)) else s.2.1 p), upd s.2.2 e (if s.2.1 (cd_pl (fr e)) = s.2.1 (cd_pl (to e)) then 0 else 1))
/-- the edge that is next -/
def cd_bt (w lk : Nat → Int32) (m e : Nat) : Prop := e < m ∧ lk e = 0 ∧ ∀ f, f < m → lk f = 0 → (w f).toInt < (w e).toInt ∨ ((w f).toInt = (w e).toInt ∧ e ≤ f)
theorem cd_bt_u {w lk : Nat → Int32} {m e f : Nat} (h : cd_bt w lk m e) (g : cd_bt w lk m f) : e = f := by
  have h1 := h.2.2 f g.1 g.2.1
  have h2 := g.2.2 e h.1 h.2.1
  omega
def cd_KR (w fr to : Nat → Int32) (m : Nat) (s0 : (Nat → Int32) × (Nat → Int32) × (Nat → Int32)) : Nat → (Nat → Int32) × (Nat → Int32) × (Nat → Int32) → Prop
  | 0, s => s = cd_ks fr to m s0
  | i + 1, s => ∃ s1 e, cd_KR w fr to m s0 i s1 ∧ cd_bt w s1.1 m e ∧ s = cd_ks fr to e s1
theorem cd_KR_u {w fr to : Nat → Int32} {m : Nat} {s0 : (Nat → Int32) × (Nat → Int32) × (Nat → Int32)} : ∀ i s s', cd_KR w fr to m s0 i s → cd_KR w fr to m s0 i s' → s = s'
  | 0, s, s', h, g => h.trans g.symm
  | i + 1, s, s', ⟨s1, e, h1, h2, h3⟩, ⟨s2, f, g1, g2, g3⟩ => by
    have := cd_KR_u i s1 s2 h1 g1
    subst this
    have := cd_bt_u h2 g2
    subst this
    exact h3.trans g3.symm
/-- how many are looked at -/
def cd_lc (lk : Nat → Int32) (n : Nat) : Nat := cd_sm (fun e => if lk e = 0 then 0 else 1) n
theorem cd_lc_u {lk : Nat → Int32} {e n : Nat} (he : e < n) (h : lk e = 0) : cd_lc (upd lk e 1) n = cd_lc lk n + 1 := by
  have := cd_sm_u (f := fun e => if lk e = 0 then 0 else 1) (g := fun f => if upd lk e 1 f = 0 then 0 else 1) (j := e) n he (fun i _ hi => by
    show (if upd lk e 1 i = 0 then 0 else 1) = (if lk i = 0 then 0 else 1)
    rw [pk_un hi])
  rw [if_pos h, pk_us, if_neg (by decide)] at this
  exact this
theorem cd_lc_0 {lk : Nat → Int32} {n : Nat} (h : ∀ e, e < n → lk e = 0) : cd_lc lk n = 0 := by
  have := cd_sm_le (f := fun e => if lk e = 0 then 0 else 1) (c := 0) n (fun i hi => by
    show (if lk i = 0 then 0 else 1) ≤ 0
    rw [if_pos (h i hi)]
    exact Nat.le_refl 0)
  unfold cd_lc
  omega
theorem cd_lc_ex {lk : Nat → Int32} : ∀ n, cd_lc lk n < n → ∃ e, e < n ∧ lk e = 0
  | 0, h => absurd h (by omega)
  | n + 1, h => by
    by_cases e : lk n = 0
    · exact ⟨n, by omega, e⟩
    · have h' : cd_lc lk n + (if lk n = 0 then 0 else 1) < n + 1 := h
      rw [if_neg e] at h'
      obtain ⟨f, hf, hf2⟩ := cd_lc_ex (lk := lk) n (by omega)
      exact ⟨f, by omega, hf2⟩
theorem cd_lc_all {lk : Nat → Int32} : ∀ n, (∀ e, e < n → lk e ≠ 0) → cd_lc lk n = n
  | 0, _ => rfl
  | n + 1, h => by
    show cd_lc lk n + (if lk n = 0 then 0 else 1) = n + 1
    rw [cd_lc_all n (fun e he => h e (by omega)), if_neg (h n (by omega))]
/-- what holds after i steps -/
theorem cd_KR_c {w fr to : Nat → Int32} {m : Nat} {s0 : (Nat → Int32) × (Nat → Int32) × (Nat → Int32)} (h0 : ∀ e, e ≤ m → s0.1 e = 0) : ∀ i s, cd_KR w fr to m s0 i s → cd_lc s.1 (m + 1) = i + 1 ∧ s.1 m ≠ 0
  | 0, s, h => by
    subst h
    refine ⟨?_, ?_⟩
    · show cd_lc (upd s0.1 m 1) (m + 1) = 1
      rw [cd_lc_u (by omega) (h0 m (by omega)), cd_lc_0 (fun e he => h0 e (by omega))]
    · show upd s0.1 m 1 m ≠ 0
      rw [pk_us]; decide
  | i + 1, s, ⟨s1, e, h1, h2, h3⟩ => by
    obtain ⟨a, b⟩ := cd_KR_c h0 i s1 h1
    subst h3
    refine ⟨?_, ?_⟩
    · show cd_lc (upd s1.1 e 1) (m + 1) = i + 1 + 1
      rw [cd_lc_u (by have := h2.1; omega) h2.2.1, a]
    · show upd s1.1 e 1 m ≠ 0
      rw [pk_un (by have := h2.1; omega)]; exact b
section
variable {x_blocks x_builtBlocks x_edges x_paths x_runX x_runY x_runDone : Int32} {x_ops x_operands x_kinds x_targets x_builtOps x_builtOperands x_builtKinds x_firstEdge x_edgeFrom x_edgeExit x_edgeTo x_edgeWeight x_inTree x_isBack x_beginsPaths x_firstPath x_pathsFrom x_pathsBefore x_counts x_dumped x_dumpKept x_looked x_joined x_met x_nextExit x_way : Nat → Int32}
theorem cd_xpl {post : Int32 → Prop} {x : Int32} (hx : x = -1 ∨ ∃ t : Nat, t < 12 ∧ x = nI t) (hp : post (nI (cd_pl x))) : wpX_placeOf post x := by
  unfold wpX_placeOf
  unfold cd_pl at hp
  refine br_c (fun h => ?_) (fun h => ?_)
  · rw [if_pos h] at hp; exact hp
  · rw [if_neg h] at hp
    obtain ⟨t, ht, rfl⟩ := hx.resolve_left h
    rw [cd_cl (by omega)] at hp; exact hp
theorem cd_pl13 {x : Int32} (hx : x = -1 ∨ ∃ t : Nat, t < 12 ∧ x = nI t) : cd_pl x < 13 := by
  unfold cd_pl
  rcases hx with h | ⟨t, ht, rfl⟩
  · rw [if_pos h]; omega
  · rw [if_neg (cd_nm1 (by omega)), cd_cl (by omega)]; omega
theorem cd_xlook {post : SX → Prop} {e : Nat} {q : Int32} (hq : q = nI e) (he : e < 37) (hf : x_edgeFrom e = -1 ∨ ∃ t : Nat, t < 12 ∧ x_edgeFrom e = nI t) (ht : x_edgeTo e = -1 ∨ ∃ t : Nat, t < 12 ∧ x_edgeTo e = nI t)
    (hp : post (x_blocks, x_builtBlocks, x_edges, x_paths, x_runX, x_runY, x_runDone, x_ops, x_operands, x_kinds, x_targets, x_builtOps, x_builtOperands, x_builtKinds, x_firstEdge, x_edgeFrom, x_edgeExit, x_edgeTo, x_edgeWeight, ((cd_ks x_edgeFrom x_edgeTo e (x_looked, x_joined, x_inTree)).2.2), x_isBack, x_beginsPaths, x_firstPath, x_pathsFrom, x_pathsBefore, x_counts, x_dumped, x_dumpKept, ((cd_ks x_edgeFrom x_edgeTo e (x_looked, x_joined, x_inTree)).1), ((cd_ks x_edgeFrom x_edgeTo e (x_looked, x_joined, x_inTree)).2.1), x_met, x_nextExit, x_way)) : wpX_lookAtForTree post (x_blocks, x_builtBlocks, x_edges, x_paths, x_runX, x_runY, x_runDone, x_ops, x_operands, x_kinds, x_targets, x_builtOps, x_builtOperands, x_builtKinds, x_firstEdge, x_edgeFrom, x_edgeExit, x_edgeTo, x_edgeWeight, x_inTree, x_isBack, x_beginsPaths, x_firstPath, x_pathsFrom, x_pathsBefore, x_counts, x_dumped, x_dumpKept, x_looked, x_joined, x_met, x_nextExit, x_way) q := by
  subst hq
  have c := cd_cl (n := e) (by omega)
  have p1 := cd_pl13 hf
  have p2 := cd_pl13 ht
  unfold wpX_lookAtForTree
  dsimp only
  rw [c]
  have L : ∀ (tr : Nat → Int32) (a b : Int32), a = x_joined (cd_pl (x_edgeFrom e)) → b = x_joined (cd_pl (x_edgeTo e)) → tr = (cd_ks x_edgeFrom x_edgeTo e (x_looked, x_joined, x_inTree)).2.2 → ∃ n56, wX_lookAtForTree_56 post a b x_blocks x_builtBlocks x_edges x_paths x_runX x_runY x_runDone n56 0 x_ops x_operands x_kinds x_targets x_builtOps x_builtOperands x_builtKinds x_firstEdge x_edgeFrom x_edgeExit x_edgeTo x_edgeWeight tr x_isBack x_beginsPaths x_firstPath x_pathsFrom x_pathsBefore x_counts x_dumped x_dumpKept (upd x_looked e 1) x_joined x_met x_nextExit x_way := by
    intro tr a b ha hb htr
    subst ha hb htr
    exact cd_loop (fun n i => wX_lookAtForTree_56 post (x_joined (cd_pl (x_edgeFrom e))) (x_joined (cd_pl (x_edgeTo e))) x_blocks x_builtBlocks x_edges x_paths x_runX x_runY x_runDone n (nI i) x_ops x_operands x_kinds x_targets x_builtOps x_builtOperands x_builtKinds x_firstEdge x_edgeFrom x_edgeExit x_edgeTo x_edgeWeight ((cd_ks x_edgeFrom x_edgeTo e (x_looked, x_joined, x_inTree)).2.2) x_isBack x_beginsPaths x_firstPath x_pathsFrom x_pathsBefore x_counts x_dumped x_dumpKept (upd x_looked e 1) (cd_fo x_joined 0 i (fun p => if x_joined p = x_joined (cd_pl (x_edgeFrom e)) then x_joined (cd_pl (x_edgeTo e)) else x_joined p)) x_met x_nextExit x_way) 13
      (fun n => pk_le 13 13 (fun _ => hp) (fun h => absurd h (by omega)))
      (fun n i hi hn => pk_le 13 i (fun h => absurd h (by omega)) (fun h => ⟨pk_in i 13 hi, br_c
        (fun hz => ⟨pk_in i 13 hi, nm_r (cd_fo_z (by omega) (by rw [cd_cl (by omega), cd_fo_out (by omega)] at hz; rw [if_pos hz])) (nm_r (nI_1 i) hn)⟩)
        (fun hz => nm_r (nI_1 i) (by
          rw [cd_cl (by omega), cd_fo_out (by omega)] at hz
          have E : cd_fo x_joined 0 (i + 1) (fun p => if x_joined p = x_joined (cd_pl (x_edgeFrom e)) then x_joined (cd_pl (x_edgeTo e)) else x_joined p) = cd_fo x_joined 0 i (fun p => if x_joined p = x_joined (cd_pl (x_edgeFrom e)) then x_joined (cd_pl (x_edgeTo e)) else x_joined p) := by
            rw [← cd_fo_s]
            exact cd_upd_id (by rw [if_neg hz, cd_fo_out (by omega), Nat.zero_add])
          rw [E] at hn
          exact hn))⟩))
  refine ⟨pk_in e 37 he, nm_e ⟨pk_in e 37 he, cd_xpl hf ⟨pk_in (cd_pl (x_edgeFrom e)) 13 p1, nm_r (congrArg x_joined (cd_cl (by omega))) ⟨pk_in e 37 he, cd_xpl ht ⟨pk_in (cd_pl (x_edgeTo e)) 13 p2, nm_r (congrArg x_joined (cd_cl (by omega))) ?_⟩⟩⟩⟩⟩
  refine br_c (fun h => ⟨pk_in e 37 he, nm_e (L _ _ _ rfl rfl ?_)⟩) (fun h => ⟨pk_in e 37 he, nm_e (L _ _ _ rfl rfl ?_)⟩)
  · show _ = upd x_inTree e (if x_joined (cd_pl (x_edgeFrom e)) = x_joined (cd_pl (x_edgeTo e)) then 0 else 1)
    rw [if_pos h]; rfl
  · show _ = upd x_inTree e (if x_joined (cd_pl (x_edgeFrom e)) = x_joined (cd_pl (x_edgeTo e)) then 0 else 1)
    rw [if_neg h]; rfl
/-- counting down to below 0 -/
def cd_dn : Nat → Int32
  | 0 => -1
  | j + 1 => nI j
theorem cd_dn_s (j : Nat) : nI j + (-1) = cd_dn j := by
  cases j with
  | zero => rfl
  | succ k => exact pk_m1 k
theorem cd_xheavy {post : Int32 → Prop} {m : Nat} (hm : m < 37) (hl : x_looked m ≠ 0) (hex : ∃ e, e < m ∧ x_looked e = 0) (hp : ∀ e, cd_bt x_edgeWeight x_looked m e → post (nI e)) : wpX_heaviestNotLooked post (x_blocks, x_builtBlocks, (nI (m + 1)), x_paths, x_runX, x_runY, x_runDone, x_ops, x_operands, x_kinds, x_targets, x_builtOps, x_builtOperands, x_builtKinds, x_firstEdge, x_edgeFrom, x_edgeExit, x_edgeTo, x_edgeWeight, x_inTree, x_isBack, x_beginsPaths, x_firstPath, x_pathsFrom, x_pathsBefore, x_counts, x_dumped, x_dumpKept, x_looked, x_joined, x_met, x_nextExit, x_way) := by
  have H : ∀ i h, i ≤ m + 1 → h ≤ m → ((h = m ∧ ∀ f, i ≤ f → f < m → x_looked f ≠ 0) ∨ (h < m ∧ i ≤ h ∧ x_looked h = 0 ∧ ∀ f, i ≤ f → f < m → x_looked f = 0 → (x_edgeWeight f).toInt < (x_edgeWeight h).toInt ∨ ((x_edgeWeight f).toInt = (x_edgeWeight h).toInt ∧ h ≤ f))) → wX_heaviestNotLooked_14 post x_blocks x_builtBlocks (nI (m + 1)) x_paths x_runX x_runY x_runDone x_ops x_operands x_kinds x_targets x_builtOps x_builtOperands x_builtKinds x_firstEdge x_edgeFrom x_edgeExit x_edgeTo x_edgeWeight x_inTree x_isBack x_beginsPaths x_firstPath x_pathsFrom x_pathsBefore x_counts x_dumped x_dumpKept x_looked x_joined x_met x_nextExit x_way (i + 1) (nI h) (cd_dn i) := by
    intro i
    induction i with
    | zero =>
      intro h hi hh I
      refine br_t (show cd_dn 0 < 0 by decide) ?_
      rcases I with ⟨_, I⟩ | ⟨h1, h2, h3, h4⟩
      · obtain ⟨e, he, hz⟩ := hex
        exact absurd hz (I e (by omega) he)
      · exact hp h ⟨h1, h3, fun f hf hz => h4 f (by omega) hf hz⟩
    | succ i ih =>
      intro h hi hh I
      show wX_heaviestNotLooked_14 post x_blocks x_builtBlocks (nI (m + 1)) x_paths x_runX x_runY x_runDone x_ops x_operands x_kinds x_targets x_builtOps x_builtOperands x_builtKinds x_firstEdge x_edgeFrom x_edgeExit x_edgeTo x_edgeWeight x_inTree x_isBack x_beginsPaths x_firstPath x_pathsFrom x_pathsBefore x_counts x_dumped x_dumpKept x_looked x_joined x_met x_nextExit x_way (i + 1 + 1) (nI h) (nI i)
      have ch := cd_cl (n := h) (by omega)
      have ci := cd_cl (n := i) (by omega)
      have keep : ∀ h', h' ≤ m → ((h' = m ∧ ∀ f, i ≤ f → f < m → x_looked f ≠ 0) ∨ (h' < m ∧ i ≤ h' ∧ x_looked h' = 0 ∧ ∀ f, i ≤ f → f < m → x_looked f = 0 → (x_edgeWeight f).toInt < (x_edgeWeight h').toInt ∨ ((x_edgeWeight f).toInt = (x_edgeWeight h').toInt ∧ h' ≤ f))) → wX_heaviestNotLooked_14 post x_blocks x_builtBlocks (nI (m + 1)) x_paths x_runX x_runY x_runDone x_ops x_operands x_kinds x_targets x_builtOps x_builtOperands x_builtKinds x_firstEdge x_edgeFrom x_edgeExit x_edgeTo x_edgeWeight x_inTree x_isBack x_beginsPaths x_firstPath x_pathsFrom x_pathsBefore x_counts x_dumped x_dumpKept x_looked x_joined x_met x_nextExit x_way (i + 1) (nI h') (nI i + (-1)) := by
        intro h' hh' I'
        rw [cd_dn_s]
        exact ih h' (by omega) hh' I'
      have skip : x_looked i ≠ 0 → wX_heaviestNotLooked_14 post x_blocks x_builtBlocks (nI (m + 1)) x_paths x_runX x_runY x_runDone x_ops x_operands x_kinds x_targets x_builtOps x_builtOperands x_builtKinds x_firstEdge x_edgeFrom x_edgeExit x_edgeTo x_edgeWeight x_inTree x_isBack x_beginsPaths x_firstPath x_pathsFrom x_pathsBefore x_counts x_dumped x_dumpKept x_looked x_joined x_met x_nextExit x_way (i + 1) (nI h) (nI i + (-1)) := by
        intro hz
        refine keep h hh ?_
        rcases I with ⟨a, b⟩ | ⟨a, b, c, d⟩
        · refine Or.inl ⟨a, fun f h1 h2 => ?_⟩
          by_cases e : f = i
          · subst e; exact hz
          · exact b f (by omega) h2
        · refine Or.inr ⟨a, by omega, c, fun f h1 h2 h3 => ?_⟩
          by_cases e : f = i
          · subst e; exact absurd h3 hz
          · exact d f (by omega) h2 h3
      refine br_f (nI_pos (by omega)) ⟨pk_in h 37 (by omega), ?_⟩
      rw [ch]
      refine br_c (fun hz => ⟨pk_in i 37 (by omega), pk_in h 37 (by omega), ?_⟩) (fun hz => ?_)
      · rw [ci]
        rcases I with ⟨a, b⟩ | ⟨a, b, c, d⟩
        · subst a; exact absurd hz hl
        · refine br_c (fun hlt => ⟨pk_in i 37 (by omega), ?_⟩) (fun hlt => ⟨pk_in i 37 (by omega), ?_⟩)
          · rw [ci]
            refine br_c (fun hy => br_t rfl (nm_e (keep h hh (Or.inr ⟨a, by omega, c, fun f h1 h2 h3 => ?_⟩)))) (fun hy => nm_e (skip hy))
            by_cases e : f = i
            · subst e; rw [Int32.lt_iff_toInt_lt] at hlt; exact Or.inl hlt
            · exact d f (by omega) h2 h3
          · rw [ci]
            refine br_c (fun hy => br_f (by decide) (nm_e (keep i (by omega) ?_))) (fun hy => nm_e (skip hy))
            rw [Int32.lt_iff_toInt_lt] at hlt
            refine Or.inr ⟨by omega, Nat.le_refl _, hy, fun f h1 h2 h3 => ?_⟩
            by_cases e : f = i
            · subst e; exact Or.inr ⟨rfl, Nat.le_refl _⟩
            · have := d f (by omega) h2 h3
              omega
      · refine ⟨pk_in i 37 (by omega), ?_⟩
        rw [ci]
        refine br_c (fun hy => br_f (by decide) (nm_e (keep i (by omega) ?_))) (fun hy => nm_e (skip hy))
        rcases I with ⟨a, b⟩ | ⟨a, b, c, d⟩
        · have hi2 : i ≠ m := fun e => by subst e; exact hl hy
          refine Or.inr ⟨by omega, Nat.le_refl _, hy, fun f h1 h2 h3 => ?_⟩
          by_cases e : f = i
          · subst e; exact Or.inr ⟨rfl, Nat.le_refl _⟩
          · exact absurd h3 (b f (by omega) h2)
        · exact absurd c hz
  unfold wpX_heaviestNotLooked
  dsimp only
  refine nm_r (nI_pred m) (nm_r (nI_pred m) (Exists.intro (m + 1 + 1) (H (m + 1) m (by omega) (by omega) (Or.inl ⟨rfl, fun f h1 h2 => absurd h1 (by omega)⟩))))
theorem cd_xtree {post : SX → Prop} {m : Nat} (hm : m < 37) (hf : ∀ e, e ≤ m → x_edgeFrom e = -1 ∨ ∃ t : Nat, t < 12 ∧ x_edgeFrom e = nI t) (ht : ∀ e, e ≤ m → x_edgeTo e = -1 ∨ ∃ t : Nat, t < 12 ∧ x_edgeTo e = nI t)
    (hp : ∀ s, cd_KR x_edgeWeight x_edgeFrom x_edgeTo m (cd_fo x_looked 0 (m + 1) (fun _ => 0), cd_fo x_joined 0 13 nI, x_inTree) m s → post (x_blocks, x_builtBlocks, (nI (m + 1)), x_paths, x_runX, x_runY, x_runDone, x_ops, x_operands, x_kinds, x_targets, x_builtOps, x_builtOperands, x_builtKinds, x_firstEdge, x_edgeFrom, x_edgeExit, x_edgeTo, x_edgeWeight, s.2.2, x_isBack, x_beginsPaths, x_firstPath, x_pathsFrom, x_pathsBefore, x_counts, x_dumped, x_dumpKept, s.1, s.2.1, x_met, x_nextExit, x_way)) : wpX_makeTree post (x_blocks, x_builtBlocks, (nI (m + 1)), x_paths, x_runX, x_runY, x_runDone, x_ops, x_operands, x_kinds, x_targets, x_builtOps, x_builtOperands, x_builtKinds, x_firstEdge, x_edgeFrom, x_edgeExit, x_edgeTo, x_edgeWeight, x_inTree, x_isBack, x_beginsPaths, x_firstPath, x_pathsFrom, x_pathsBefore, x_counts, x_dumped, x_dumpKept, x_looked, x_joined, x_met, x_nextExit, x_way) := by
  have h0 : ∀ e, e ≤ m → cd_fo x_looked 0 (m + 1) (fun _ => 0) e = 0 := fun e he => cd_fo_in (by omega) (by omega)
  have H : ∀ d i s, i + d = m → cd_KR x_edgeWeight x_edgeFrom x_edgeTo m (cd_fo x_looked 0 (m + 1) (fun _ => 0), cd_fo x_joined 0 13 nI, x_inTree) i s → wX_makeTree_61 post (d + 1) (nI d) x_blocks x_builtBlocks (nI (m + 1)) x_paths x_runX x_runY x_runDone x_ops x_operands x_kinds x_targets x_builtOps x_builtOperands x_builtKinds x_firstEdge x_edgeFrom x_edgeExit x_edgeTo x_edgeWeight s.2.2 x_isBack x_beginsPaths x_firstPath x_pathsFrom x_pathsBefore x_counts x_dumped x_dumpKept s.1 s.2.1 x_met x_nextExit x_way := by
    intro d
    induction d with
    | zero =>
      intro i s hi hk
      have : i = m := by omega
      subst this
      exact pk_le 0 0 (fun _ => hp s hk) (fun h => absurd h (by omega))
    | succ d ih =>
      intro i s hi hk
      obtain ⟨k1, k2⟩ := cd_KR_c h0 i s hk
      have hex : ∃ e, e < m ∧ s.1 e = 0 := by
        obtain ⟨e, he, hz⟩ := cd_lc_ex (lk := s.1) (m + 1) (by omega)
        refine ⟨e, ?_, hz⟩
        by_cases g : e = m
        · subst g; exact absurd hz k2
        · omega
      refine pk_le (d + 1) 0 (fun h => absurd h (by omega)) (fun _ => cd_xheavy hm k2 hex (fun e he => ?_))
      refine cd_xlook rfl (by have := he.1; omega) (hf e (by have := he.1; omega)) (ht e (by have := he.1; omega)) ?_
      exact nm_r (pk_m1 d) (ih (i + 1) _ (by omega) ⟨s, e, hk, he, rfl⟩)
  refine cd_loop (fun n i => wX_makeTree_2 post x_blocks x_builtBlocks (nI (m + 1)) x_paths x_runX x_runY x_runDone n (nI i) x_ops x_operands x_kinds x_targets x_builtOps x_builtOperands x_builtKinds x_firstEdge x_edgeFrom x_edgeExit x_edgeTo x_edgeWeight x_inTree x_isBack x_beginsPaths x_firstPath x_pathsFrom x_pathsBefore x_counts x_dumped x_dumpKept x_looked (cd_fo x_joined 0 i nI) x_met x_nextExit x_way) 13
    (fun n => pk_le 13 13 (fun _ => ?_) (fun h => absurd h (by omega)))
    (fun n i hi hn => pk_le 13 i (fun h => absurd h (by omega)) (fun h => ⟨pk_in i 13 hi, nm_r (cd_fo_z (by omega) rfl) (nm_r (nI_1 i) hn)⟩))
  refine cd_loop (fun n i => wX_makeTree_23 post x_blocks x_builtBlocks (nI (m + 1)) x_paths x_runX x_runY x_runDone n (nI i) x_ops x_operands x_kinds x_targets x_builtOps x_builtOperands x_builtKinds x_firstEdge x_edgeFrom x_edgeExit x_edgeTo x_edgeWeight x_inTree x_isBack x_beginsPaths x_firstPath x_pathsFrom x_pathsBefore x_counts x_dumped x_dumpKept (cd_fo x_looked 0 i (fun _ => 0)) (cd_fo x_joined 0 13 nI) x_met x_nextExit x_way) (m + 1)
    (fun n => pk_le (m + 1) (m + 1) (fun _ => ?_) (fun h => absurd h (by omega)))
    (fun n i hi hn => pk_le (m + 1) i (fun h => absurd h (by omega)) (fun h => ⟨pk_in i 37 (by omega), nm_r (cd_fo_z (by omega) rfl) (nm_r (nI_1 i) hn)⟩))
  refine cd_xlook (nI_pred m) hm (hf m (by omega)) (ht m (by omega)) ?_
  exact nm_r (nI_pred m) (Exists.intro (m + 1) (H m 0 _ (by omega) rfl))
end
end
section
/-- the reference's place -/
def cd_sg (p : Nat) : Nat := if p = 12 then 0 else p + 1
theorem cd_sg13 {p : Nat} (h : p < 13) : cd_sg p < 13 := by
  unfold cd_sg
  split <;> omega
theorem cd_sg_inj {p q : Nat} (h : cd_sg p = cd_sg q) : p = q := by
  unfold cd_sg at h
  split at h
  · split at h <;> omega
  · split at h <;> omega
theorem cd_plY {x : Int32} (hx : x = -1 ∨ ∃ t : Nat, t < 12 ∧ x = nI t) : x + 1 = nI (cd_sg (cd_pl x)) := by
  unfold cd_pl cd_sg
  rcases hx with h | ⟨t, ht, rfl⟩
  · subst h; rfl
  · rw [if_neg (cd_nm1 (by omega)), cd_cl (by omega), if_neg (by omega), nI_1]
/-- the reference's marks and tree against looked, joined, inTree -/
def cd_KY (m : Nat) (s : (Nat → Int32) × (Nat → Int32) × (Nat → Int32)) (mk tr : Nat → Int32) : Prop :=
  (∀ p q, p < 13 → q < 13 → (mk (cd_sg p) = mk (cd_sg q) ↔ s.2.1 p = s.2.1 q)) ∧ (∀ e, e ≤ m → (s.1 e = 0 → tr e = 0) ∧ (s.1 e ≠ 0 → tr e = s.2.2 e)) ∧ (∀ e, m < e → tr e = s.2.2 e)
theorem cd_rel {f : Nat → Int32} {a b : Int32} {p q : Nat} : ((if f p = a then b else f p) = (if f q = a then b else f q)) ↔ (f p = f q ∨ ((f p = a ∨ f p = b) ∧ (f q = a ∨ f q = b))) := by
  by_cases h1 : f p = a
  · rw [if_pos h1]
    by_cases h2 : f q = a
    · rw [if_pos h2, h1, h2]; simp
    · rw [if_neg h2]
      constructor
      · intro e; exact Or.inr ⟨Or.inl h1, Or.inr e.symm⟩
      · rintro (e | ⟨_, e | e⟩)
        · exact absurd (e.symm.trans h1) h2
        · exact absurd e h2
        · exact e.symm
  · rw [if_neg h1]
    by_cases h2 : f q = a
    · rw [if_pos h2]
      constructor
      · intro e; exact Or.inr ⟨Or.inr e, Or.inl h2⟩
      · rintro (e | ⟨e | e, _⟩)
        · exact absurd (e.trans h2) h1
        · exact absurd e h1
        · exact e
    · rw [if_neg h2]
      constructor
      · exact Or.inl
      · rintro (e | ⟨e | e, g | g⟩)
        · exact e
        · exact absurd e h1
        · exact absurd e h1
        · exact absurd g h2
        · exact e.trans g.symm
theorem cd_KY_s {m e : Nat} {fr to : Nat → Int32} {s : (Nat → Int32) × (Nat → Int32) × (Nat → Int32)} {mk tr : Nat → Int32} (hK : cd_KY m s mk tr) (he : e ≤ m) (hz : s.1 e = 0) (h1 : cd_pl (fr e) < 13) (h2 : cd_pl (to e) < 13) :
    (mk (cd_sg (cd_pl (fr e))) = mk (cd_sg (cd_pl (to e))) → cd_KY m (cd_ks fr to e s) mk tr) ∧
    (¬ mk (cd_sg (cd_pl (fr e))) = mk (cd_sg (cd_pl (to e))) → cd_KY m (cd_ks fr to e s) (cd_fo mk 0 13 (fun p => if mk p = mk (cd_sg (cd_pl (to e))) then mk (cd_sg (cd_pl (fr e))) else mk p)) (upd tr e 1)) := by
  obtain ⟨k1, k2, k3⟩ := hK
  have kz := (k2 e he).1 hz
  refine ⟨fun h => ⟨fun p q hp hq => ?_, fun f hf => ?_, fun f hf => ?_⟩, fun h => ⟨fun p q hp hq => ?_, fun f hf => ?_, fun f hf => ?_⟩⟩
  · have hj := (k1 _ _ h1 h2).mp h
    show _ ↔ cd_fo s.2.1 0 13 _ p = cd_fo s.2.1 0 13 _ q
    rw [cd_fo_in (by omega) (by omega), cd_fo_in (by omega) (by omega), Nat.sub_zero, Nat.sub_zero, cd_rel, k1 p q hp hq]
    constructor
    · exact Or.inl
    · rintro (g | ⟨g1 | g1, g2 | g2⟩)
      · exact g
      · exact g1.trans g2.symm
      · exact g1.trans (hj.trans g2.symm)
      · exact g1.trans (hj.symm.trans g2.symm)
      · exact g1.trans g2.symm
  · have hj := (k1 _ _ h1 h2).mp h
    by_cases g : f = e
    · subst g
      refine ⟨fun z => ?_, fun z => ?_⟩
      · exact kz
      · show tr f = upd s.2.2 f _ f
        rw [pk_us, if_pos hj, kz]
    · show (upd s.1 e 1 f = 0 → tr f = 0) ∧ (upd s.1 e 1 f ≠ 0 → tr f = upd s.2.2 e _ f)
      rw [pk_un g, pk_un g]
      exact k2 f hf
  · show tr f = upd s.2.2 e _ f
    rw [pk_un (by omega)]
    exact k3 f hf
  · have hj : ¬ s.2.1 (cd_pl (fr e)) = s.2.1 (cd_pl (to e)) := fun z => h ((k1 _ _ h1 h2).mpr z)
    have g1 := cd_sg13 hp
    have g2 := cd_sg13 hq
    show cd_fo mk 0 13 _ (cd_sg p) = cd_fo mk 0 13 _ (cd_sg q) ↔ cd_fo s.2.1 0 13 _ p = cd_fo s.2.1 0 13 _ q
    rw [cd_fo_in (by omega) (by omega), cd_fo_in (by omega) (by omega), cd_fo_in (by omega) (by omega), cd_fo_in (by omega) (by omega), Nat.sub_zero, Nat.sub_zero, Nat.sub_zero, Nat.sub_zero, cd_rel, cd_rel, k1 p q hp hq, k1 p _ hp h1, k1 p _ hp h2, k1 q _ hq h1, k1 q _ hq h2]
    constructor
    · rintro (a | ⟨a, b⟩)
      · exact Or.inl a
      · exact Or.inr ⟨a.symm, b.symm⟩
    · rintro (a | ⟨a, b⟩)
      · exact Or.inl a
      · exact Or.inr ⟨a.symm, b.symm⟩
  · have hj : ¬ s.2.1 (cd_pl (fr e)) = s.2.1 (cd_pl (to e)) := fun z => h ((k1 _ _ h1 h2).mpr z)
    by_cases g : f = e
    · subst g
      refine ⟨fun z => ?_, fun z => ?_⟩
      · have z' : upd s.1 f 1 f = 0 := z
        rw [pk_us] at z'
        exact absurd z' (by decide)
      · show upd tr f 1 f = upd s.2.2 f _ f
        rw [pk_us, pk_us, if_neg hj]
    · show (upd s.1 e 1 f = 0 → upd tr e 1 f = 0) ∧ (upd s.1 e 1 f ≠ 0 → upd tr e 1 f = upd s.2.2 e _ f)
      rw [pk_un g, pk_un g, pk_un g]
      exact k2 f hf
  · show upd tr e 1 f = upd s.2.2 e _ f
    rw [pk_un (by omega), pk_un (by omega)]
    exact k3 f hf
section
variable {y_made y_blocks y_edges y_paths y_many y_lastX y_lastY y_lastBlocks : Int32} {y_op y_number y_kind y_target y_from y_to y_exit y_weight y_firstEdge y_tree y_back y_row y_length y_gone y_done y_went y_cut y_kept y_mark y_way y_tried y_stack : Nat → Int32}
theorem cd_yjoin {m e : Nat} {q : Int32} {s : (Nat → Int32) × (Nat → Int32) × (Nat → Int32)} (hq : q = nI e) (hK : cd_KY m s y_mark y_tree) (he : e ≤ m) (hm : m < 37) (hz : s.1 e = 0) (hf : y_from e = -1 ∨ ∃ t : Nat, t < 12 ∧ y_from e = nI t) (ht : y_to e = -1 ∨ ∃ t : Nat, t < 12 ∧ y_to e = nI t) :
    ∃ mk tr, cd_KY m (cd_ks y_from y_to e s) mk tr ∧ ∀ post : SY → Prop, post (y_made, y_blocks, y_edges, y_paths, y_many, y_lastX, y_lastY, y_lastBlocks, y_op, y_number, y_kind, y_target, y_from, y_to, y_exit, y_weight, y_firstEdge, tr, y_back, y_row, y_length, y_gone, y_done, y_went, y_cut, y_kept, mk, y_way, y_tried, y_stack) → wpY_join post (y_made, y_blocks, y_edges, y_paths, y_many, y_lastX, y_lastY, y_lastBlocks, y_op, y_number, y_kind, y_target, y_from, y_to, y_exit, y_weight, y_firstEdge, y_tree, y_back, y_row, y_length, y_gone, y_done, y_went, y_cut, y_kept, y_mark, y_way, y_tried, y_stack) q := by
  subst hq
  have c := cd_cl (n := e) (by omega)
  have p1 := cd_pl13 hf
  have p2 := cd_pl13 ht
  have q1 := cd_sg13 p1
  have q2 := cd_sg13 p2
  have e1 := cd_plY hf
  have e2 := cd_plY ht
  obtain ⟨K1, K2⟩ := cd_KY_s (fr := y_from) (to := y_to) hK he hz p1 p2
  by_cases h : y_mark (cd_sg (cd_pl (y_from e))) = y_mark (cd_sg (cd_pl (y_to e)))
  · refine ⟨_, _, K1 h, fun post hp => ?_⟩
    unfold wpY_join
    dsimp only
    rw [c]
    exact ⟨pk_in e 37 (by omega), pk_in _ 13 q1 e1, nm_r (congrArg y_mark (pk_cl _ e1)) ⟨pk_in e 37 (by omega), pk_in _ 13 q2 e2, nm_r (congrArg y_mark (pk_cl _ e2)) (br_t h hp)⟩⟩
  · refine ⟨_, _, K2 h, fun post hp => ?_⟩
    unfold wpY_join
    dsimp only
    rw [c]
    refine ⟨pk_in e 37 (by omega), pk_in _ 13 q1 e1, nm_r (congrArg y_mark (pk_cl _ e1)) ⟨pk_in e 37 (by omega), pk_in _ 13 q2 e2, nm_r (congrArg y_mark (pk_cl _ e2)) (br_f h ⟨pk_in e 37 (by omega), nm_e ?_⟩)⟩⟩
    generalize y_mark (cd_sg (cd_pl (y_from e))) = A at *
    generalize y_mark (cd_sg (cd_pl (y_to e))) = B at *
    exact cd_loop (fun n i => wY_join_44 post A B y_made y_blocks y_edges y_paths y_many y_lastX y_lastY y_lastBlocks n (nI i) y_op y_number y_kind y_target y_from y_to y_exit y_weight y_firstEdge (upd y_tree e 1) y_back y_row y_length y_gone y_done y_went y_cut y_kept (cd_fo y_mark 0 i (fun p => if y_mark p = B then A else y_mark p)) y_way y_tried y_stack) 13
      (fun n => pk_le 13 13 (fun _ => hp) (fun h => absurd h (by omega)))
      (fun n i hi hn => pk_le 13 i (fun h => absurd h (by omega)) (fun h => ⟨pk_in i 13 hi, br_c
        (fun hz => ⟨pk_in i 13 hi, nm_r (cd_fo_z (by omega) (by rw [cd_cl (by omega), cd_fo_out (by omega)] at hz; rw [if_pos hz])) (nm_r (nI_1 i) hn)⟩)
        (fun hz => nm_r (nI_1 i) (by
          rw [cd_cl (by omega), cd_fo_out (by omega)] at hz
          have E : cd_fo y_mark 0 (i + 1) (fun p => if y_mark p = B then A else y_mark p) = cd_fo y_mark 0 i (fun p => if y_mark p = B then A else y_mark p) := by
            rw [← cd_fo_s]
            exact cd_upd_id (by rw [if_neg hz, cd_fo_out (by omega), Nat.zero_add])
          rw [E] at hn
          exact hn))⟩))
theorem cd_l64 (x : Int32) : (x.toInt64).toInt = x.toInt := Int32.toInt_toInt64 x
theorem cd_l64s (x : Int32) : (x.toInt64 + 1).toInt = x.toInt + 1 := by
  have h1 := Int32.toInt_lt x
  have h2 := Int32.le_toInt x
  rw [Int64.toInt_add, cd_l64, show (1 : Int64).toInt = 1 from by decide]
  exact Int.bmod_eq_of_le (by omega) (by omega)
/-- a bound above all weights -/
theorem cd_y69 {post : SY → Prop} {m : Nat} (hm : m < 37) (hp : ∀ a : Int64, (∀ e, e < m → (y_weight e).toInt < a.toInt) → ∃ n, wY_renew_110 post n 1 a y_made y_blocks (nI (m + 1)) y_paths y_many y_lastX y_lastY y_lastBlocks y_op y_number y_kind y_target y_from y_to y_exit y_weight y_firstEdge y_tree y_back y_row y_length y_gone y_done y_went y_cut y_kept y_mark y_way y_tried y_stack) : ∀ d i (a : Int64), i + d = m → (∀ e, e < i → (y_weight e).toInt < a.toInt) → wY_renew_69 post 1 y_made y_blocks (nI (m + 1)) y_paths y_many y_lastX y_lastY y_lastBlocks y_op y_number y_kind y_target y_from y_to y_exit y_weight y_firstEdge y_tree y_back y_row y_length y_gone y_done y_went y_cut y_kept y_mark y_way y_tried y_stack (d + 1) a (nI i) := by
  intro d
  induction d with
  | zero =>
    intro i a hi ha
    have : i = m := by omega
    subst this
    exact pk_le i i (fun _ => hp a ha) (fun h => absurd h (by omega)) (nI_pred i)
  | succ d ih =>
    intro i a hi ha
    refine pk_le m i (fun h => absurd h (by omega)) (fun _ => ⟨pk_in i 37 (by omega), ?_⟩) (nI_pred m)
    rw [cd_cl (by omega)]
    refine br_c (fun h => nm_r (nI_1 i) (ih (i + 1) a (by omega) (fun e he => ?_))) (fun h => ⟨pk_in i 37 (by omega), nm_e (nm_r (nI_1 i) (ih (i + 1) _ (by omega) (fun e he => ?_)))⟩)
    · rw [Int64.lt_iff_toInt_lt, cd_l64] at h
      by_cases g : e = i
      · subst g; exact h
      · exact ha e (by omega)
    · rw [Int64.lt_iff_toInt_lt, cd_l64] at h
      rw [cd_l64s]
      by_cases g : e = i
      · subst g; omega
      · have := ha e (by omega)
        omega
/-- the next weight below a -/
def cd_nx (w : Nat → Int32) (a : Int64) (i : Nat) (x1 : Int32) (x4 : Int64) : Prop :=
  (x1 = 0 ∧ ∀ e, e < i → ¬ (w e).toInt < a.toInt) ∨ (x1 = 1 ∧ x4.toInt < a.toInt ∧ (∃ e, e < i ∧ (w e).toInt = x4.toInt) ∧ ∀ e, e < i → (w e).toInt < a.toInt → (w e).toInt ≤ x4.toInt)
theorem cd_y124 {m : Nat} (hm : m < 37) (a : Int64) : ∀ d i (x1 : Int32) (x4 : Int64), i + d = m → cd_nx y_weight a i x1 x4 → ∃ (z1 : Int32) (z4 : Int64), cd_nx y_weight a m z1 z4 ∧ ∀ post J, (∃ n, wY_renew_193 post J z1 z4 n 0 y_made y_blocks (nI (m + 1)) y_paths y_many y_lastX y_lastY y_lastBlocks y_op y_number y_kind y_target y_from y_to y_exit y_weight y_firstEdge y_tree y_back y_row y_length y_gone y_done y_went y_cut y_kept y_mark y_way y_tried y_stack) → wY_renew_124 post J a y_made y_blocks (nI (m + 1)) y_paths y_many y_lastX y_lastY y_lastBlocks y_op y_number y_kind y_target y_from y_to y_exit y_weight y_firstEdge y_tree y_back y_row y_length y_gone y_done y_went y_cut y_kept y_mark y_way y_tried y_stack (d + 1) x1 x4 (nI i) := by
  intro d
  induction d with
  | zero =>
    intro i x1 x4 hi ha
    have : i = m := by omega
    subst this
    exact ⟨x1, x4, ha, fun post J h => pk_le i i (fun _ => h) (fun h => absurd h (by omega)) (nI_pred i)⟩
  | succ d ih =>
    intro i x1 x4 hi ha
    have ci := cd_cl (n := i) (by omega)
    by_cases h1 : a ≤ (y_weight i).toInt64
    · have h1' : ¬ (y_weight i).toInt < a.toInt := by rw [Int64.le_iff_toInt_le, cd_l64] at h1; omega
      obtain ⟨z1, z4, hz, hw⟩ := ih (i + 1) x1 x4 (by omega) (by
        rcases ha with ⟨p, q⟩ | ⟨p, q0, ⟨e, he, he2⟩, r⟩
        · refine Or.inl ⟨p, fun e he => ?_⟩
          by_cases g : e = i
          · subst g; exact h1'
          · exact q e (by omega)
        · refine Or.inr ⟨p, q0, ⟨e, by omega, he2⟩, fun e he hlt => ?_⟩
          by_cases g : e = i
          · subst g; exact absurd hlt h1'
          · exact r e (by omega) hlt)
      refine ⟨z1, z4, hz, fun post J h => pk_le m i (fun h => absurd h (by omega)) (fun _ => ⟨pk_in i 37 (by omega), ?_⟩) (nI_pred m)⟩
      rw [ci]
      exact br_t h1 (nm_r (nI_1 i) (hw post J h))
    · have h1' : (y_weight i).toInt < a.toInt := by rw [Int64.le_iff_toInt_le, cd_l64] at h1; omega
      by_cases h2 : x1 = 0
      · obtain ⟨z1, z4, hz, hw⟩ := ih (i + 1) 1 (y_weight i).toInt64 (by omega) (by
          rcases ha with ⟨p, q⟩ | ⟨p, _⟩
          · refine Or.inr ⟨rfl, by rw [cd_l64]; exact h1', ⟨i, by omega, (cd_l64 _).symm⟩, fun e he hlt => ?_⟩
            by_cases g : e = i
            · subst g; rw [cd_l64]; omega
            · exact absurd hlt (q e (by omega))
          · rw [h2] at p; exact absurd p (by decide))
        refine ⟨z1, z4, hz, fun post J h => pk_le m i (fun h => absurd h (by omega)) (fun _ => ⟨pk_in i 37 (by omega), ?_⟩) (nI_pred m)⟩
        rw [ci]
        refine br_f h1 (br_t h2 ⟨pk_in i 37 (by omega), nm_r (e' := (y_weight i).toInt64) (by rw [ci]) (nm_r (nI_1 i) (hw post J h))⟩)
      · rcases ha with ⟨p, _⟩ | ⟨p, q0, ⟨e, he, he2⟩, r⟩
        · exact absurd p h2
        · by_cases h3 : x4 < (y_weight i).toInt64
          · have h3' : x4.toInt < (y_weight i).toInt := by rw [Int64.lt_iff_toInt_lt, cd_l64] at h3; exact h3
            obtain ⟨z1, z4, hz, hw⟩ := ih (i + 1) 1 (y_weight i).toInt64 (by omega) (Or.inr ⟨rfl, by rw [cd_l64]; exact h1', ⟨i, by omega, (cd_l64 _).symm⟩, fun e he hlt => by
              rw [cd_l64]
              by_cases g : e = i
              · subst g; omega
              · have := r e (by omega) hlt
                omega⟩)
            refine ⟨z1, z4, hz, fun post J h => pk_le m i (fun h => absurd h (by omega)) (fun _ => ⟨pk_in i 37 (by omega), ?_⟩) (nI_pred m)⟩
            rw [ci]
            refine br_f h1 (br_f h2 ⟨pk_in i 37 (by omega), br_t h3 ⟨pk_in i 37 (by omega), nm_r (e' := (y_weight i).toInt64) (by rw [ci]) (nm_r (nI_1 i) (hw post J h))⟩⟩)
          · have h3' : ¬ x4.toInt < (y_weight i).toInt := by rw [Int64.lt_iff_toInt_lt, cd_l64] at h3; exact h3
            obtain ⟨z1, z4, hz, hw⟩ := ih (i + 1) x1 x4 (by omega) (Or.inr ⟨p, q0, ⟨e, by omega, he2⟩, fun f hf hlt => by
              by_cases g : f = i
              · subst g; omega
              · exact r f (by omega) hlt⟩)
            refine ⟨z1, z4, hz, fun post J h => pk_le m i (fun h => absurd h (by omega)) (fun _ => ⟨pk_in i 37 (by omega), ?_⟩) (nI_pred m)⟩
            rw [ci]
            exact br_f h1 (br_f h2 ⟨pk_in i 37 (by omega), br_f h3 (nm_r (nI_1 i) (hw post J h))⟩)
/-- all edges of one weight -/
theorem cd_y193 {m : Nat} (hm : m < 37) (hf : ∀ e, e ≤ m → y_from e = -1 ∨ ∃ t : Nat, t < 12 ∧ y_from e = nI t) (ht : ∀ e, e ≤ m → y_to e = -1 ∨ ∃ t : Nat, t < 12 ∧ y_to e = nI t) {s0 : (Nat → Int32) × (Nat → Int32) × (Nat → Int32)} (h0 : ∀ e, e ≤ m → s0.1 e = 0) (a : Int64) :
    ∀ d i j s mk tr, i + d = m → cd_KR y_weight y_from y_to m s0 j s → cd_KY m s mk tr → (∀ e, e < m → (s.1 e ≠ 0 ↔ ((y_weight e).toInt > a.toInt ∨ ((y_weight e).toInt = a.toInt ∧ e < i)))) →
      ∃ j' s' mk' tr', cd_KR y_weight y_from y_to m s0 j' s' ∧ cd_KY m s' mk' tr' ∧ j ≤ j' ∧ ((∃ e, e < m ∧ i ≤ e ∧ (y_weight e).toInt = a.toInt) → j < j') ∧ (∀ e, e < m → (s'.1 e ≠ 0 ↔ (y_weight e).toInt ≥ a.toInt)) ∧
        ∀ post (J : Int32 → Int64 → Int32 → Int32 → Int32 → Int32 → Int32 → Int32 → Int32 → Int32 → (Nat → Int32) → (Nat → Int32) → (Nat → Int32) → (Nat → Int32) → (Nat → Int32) → (Nat → Int32) → (Nat → Int32) → (Nat → Int32) → (Nat → Int32) → (Nat → Int32) → (Nat → Int32) → (Nat → Int32) → (Nat → Int32) → (Nat → Int32) → (Nat → Int32) → (Nat → Int32) → (Nat → Int32) → (Nat → Int32) → (Nat → Int32) → (Nat → Int32) → (Nat → Int32) → (Nat → Int32) → Prop), J 1 a y_made y_blocks (nI (m + 1)) y_paths y_many y_lastX y_lastY y_lastBlocks y_op y_number y_kind y_target y_from y_to y_exit y_weight y_firstEdge tr' y_back y_row y_length y_gone y_done y_went y_cut y_kept mk' y_way y_tried y_stack → ∃ n, wY_renew_193 post J 1 a n (nI i) y_made y_blocks (nI (m + 1)) y_paths y_many y_lastX y_lastY y_lastBlocks y_op y_number y_kind y_target y_from y_to y_exit y_weight y_firstEdge tr y_back y_row y_length y_gone y_done y_went y_cut y_kept mk y_way y_tried y_stack := by
  intro d
  induction d with
  | zero =>
    intro i j s mk tr hi hR hY hl
    have : i = m := by omega
    subst this
    refine ⟨j, s, mk, tr, hR, hY, Nat.le_refl _, fun ⟨e, h1, h2, _⟩ => absurd h1 (by omega), fun e he => ?_, fun post J hJ => ⟨1, pk_le i i (fun _ => hJ) (fun h => absurd h (by omega)) (nI_pred i)⟩⟩
    rw [hl e he]
    omega
  | succ d ih =>
    intro i j s mk tr hi hR hY hl
    have ci := cd_cl (n := i) (by omega)
    by_cases h : (y_weight i).toInt64 = a
    · have h' : (y_weight i).toInt = a.toInt := by rw [← h, cd_l64]
      have hz : s.1 i = 0 := by
        by_cases g : s.1 i = 0
        · exact g
        · have := (hl i (by omega)).mp g
          omega
      have hbt : cd_bt y_weight s.1 m i := ⟨by omega, hz, fun f hf2 hfz => by
        have h3 : ¬ ((y_weight f).toInt > a.toInt ∨ ((y_weight f).toInt = a.toInt ∧ f < i)) := fun g => (hl f hf2).mpr g hfz
        omega⟩
      have hl' : ∀ e, e < m → ((cd_ks y_from y_to i s).1 e ≠ 0 ↔ ((y_weight e).toInt > a.toInt ∨ ((y_weight e).toInt = a.toInt ∧ e < i + 1))) := by
        intro e he
        show upd s.1 i 1 e ≠ 0 ↔ _
        by_cases g : e = i
        · subst g
          rw [pk_us]
          constructor
          · intro _; omega
          · intro _; decide
        · rw [pk_un g, hl e he]
          omega
      have hex : ∀ mk' tr', cd_KY m (cd_ks y_from y_to i s) mk' tr' → _ := fun mk' tr' hK' => ih (i + 1) (j + 1) (cd_ks y_from y_to i s) mk' tr' (by omega) ⟨s, i, hR, hbt, rfl⟩ hK' hl'
      have p1 := cd_pl13 (hf i (by omega))
      have p2 := cd_pl13 (ht i (by omega))
      have hjoin : ∃ mk' tr', cd_KY m (cd_ks y_from y_to i s) mk' tr' ∧ ∀ post : SY → Prop, post (y_made, y_blocks, (nI (m + 1)), y_paths, y_many, y_lastX, y_lastY, y_lastBlocks, y_op, y_number, y_kind, y_target, y_from, y_to, y_exit, y_weight, y_firstEdge, tr', y_back, y_row, y_length, y_gone, y_done, y_went, y_cut, y_kept, mk', y_way, y_tried, y_stack) → wpY_join post (y_made, y_blocks, (nI (m + 1)), y_paths, y_many, y_lastX, y_lastY, y_lastBlocks, y_op, y_number, y_kind, y_target, y_from, y_to, y_exit, y_weight, y_firstEdge, tr, y_back, y_row, y_length, y_gone, y_done, y_went, y_cut, y_kept, mk, y_way, y_tried, y_stack) (nI i) := cd_yjoin rfl hY (by omega) hm hz (hf i (by omega)) (ht i (by omega))
      obtain ⟨mk', tr', hK', hJn⟩ := hjoin
      obtain ⟨j', s', mk2, tr2, r1, r2, r3, r4, r5, r6⟩ := hex mk' tr' hK'
      refine ⟨j', s', mk2, tr2, r1, r2, by omega, fun _ => by omega, r5, fun post J hJ => ?_⟩
      obtain ⟨n, hn⟩ := r6 post J hJ
      refine ⟨n + 1, pk_le m i (fun h => absurd h (by omega)) (fun _ => br_f (by decide) ⟨pk_in i 37 (by omega), ?_⟩) (nI_pred m)⟩
      rw [ci]
      exact br_t h (hJn _ (nm_r (nI_1 i) hn))
    · have h' : ¬ (y_weight i).toInt = a.toInt := fun g => h (Int64.toInt_inj.mp (by rw [cd_l64]; exact g))
      obtain ⟨j', s', mk2, tr2, r1, r2, r3, r4, r5, r6⟩ := ih (i + 1) j s mk tr (by omega) hR hY (fun e he => by
        rw [hl e he]
        by_cases g : e = i
        · subst g; omega
        · omega)
      refine ⟨j', s', mk2, tr2, r1, r2, r3, fun ⟨e, h1, h2, h3⟩ => r4 ⟨e, h1, ?_, h3⟩, r5, fun post J hJ => ?_⟩
      · by_cases g : e = i
        · subst g; exact absurd h3 h'
        · omega
      obtain ⟨n, hn⟩ := r6 post J hJ
      refine ⟨n + 1, pk_le m i (fun h => absurd h (by omega)) (fun _ => br_f (by decide) ⟨pk_in i 37 (by omega), ?_⟩) (nI_pred m)⟩
      rw [ci]
      exact br_f h (nm_r (nI_1 i) hn)
theorem cd_lc_le {lk : Nat → Int32} (n : Nat) : cd_lc lk n ≤ n := by
  have := cd_sm_le (f := fun e => if lk e = 0 then 0 else 1) (c := 1) n (fun i _ => by
    show (if lk i = 0 then 0 else 1) ≤ 1
    split <;> omega)
  unfold cd_lc
  omega
theorem cd_y110 {post : SY → Prop} {m : Nat} (hm : m < 37) (hf : ∀ e, e ≤ m → y_from e = -1 ∨ ∃ t : Nat, t < 12 ∧ y_from e = nI t) (ht : ∀ e, e ≤ m → y_to e = -1 ∨ ∃ t : Nat, t < 12 ∧ y_to e = nI t) {s0 sf : (Nat → Int32) × (Nat → Int32) × (Nat → Int32)} (h0 : ∀ e, e ≤ m → s0.1 e = 0) (hsf : cd_KR y_weight y_from y_to m s0 m sf)
    (hp : ∀ mk, post (y_made, y_blocks, (nI (m + 1)), y_paths, y_many, y_lastX, y_lastY, y_lastBlocks, y_op, y_number, y_kind, y_target, y_from, y_to, y_exit, y_weight, y_firstEdge, sf.2.2, y_back, y_row, y_length, (cd_fo y_gone 0 37 (fun _ => 0)), (cd_fo y_done 0 12 (fun _ => 0)), (cd_fo y_went 0 300 (fun _ => 0)), (upd y_cut 0 0), (cd_fo y_kept 0 2 (fun _ => 0)), mk, y_way, y_tried, y_stack)) :
    ∀ μ j s mk tr (a : Int64), m - j ≤ μ → cd_KR y_weight y_from y_to m s0 j s → cd_KY m s mk tr → (∀ e, e < m → (s.1 e ≠ 0 ↔ (y_weight e).toInt ≥ a.toInt)) → ∃ n, wY_renew_110 post n 1 a y_made y_blocks (nI (m + 1)) y_paths y_many y_lastX y_lastY y_lastBlocks y_op y_number y_kind y_target y_from y_to y_exit y_weight y_firstEdge tr y_back y_row y_length y_gone y_done y_went y_cut y_kept mk y_way y_tried y_stack := by
  intro μ
  induction μ with
  | zero =>
    intro j s mk tr a hμ hR hY hl
    obtain ⟨c1, c2⟩ := cd_KR_c h0 j s hR
    have c3 := cd_lc_le (lk := s.1) (m + 1)
    have hj : j = m := by omega
    subst hj
    have hall : ∀ e, e ≤ j → s.1 e ≠ 0 := by
      intro e he hz
      have h1 := cd_lc_u (lk := s.1) (n := j + 1) (e := e) (by omega) hz
      have h2 := cd_lc_le (lk := upd s.1 e 1) (j + 1)
      omega
    have hs : s = sf := cd_KR_u j s sf hR hsf
    subst hs
    have htr : tr = s.2.2 := by
      funext e
      by_cases g : e ≤ j
      · exact (hY.2.1 e g).2 (hall e g)
      · exact hY.2.2 e (by omega)
    subst htr
    have P : ∃ (z1 : Int32) (z4 : Int64), cd_nx y_weight a j z1 z4 ∧ ∀ post J, (∃ n, wY_renew_193 post J z1 z4 n 0 y_made y_blocks (nI (j + 1)) y_paths y_many y_lastX y_lastY y_lastBlocks y_op y_number y_kind y_target y_from y_to y_exit y_weight y_firstEdge s.2.2 y_back y_row y_length y_gone y_done y_went y_cut y_kept mk y_way y_tried y_stack) → wY_renew_124 post J a y_made y_blocks (nI (j + 1)) y_paths y_many y_lastX y_lastY y_lastBlocks y_op y_number y_kind y_target y_from y_to y_exit y_weight y_firstEdge s.2.2 y_back y_row y_length y_gone y_done y_went y_cut y_kept mk y_way y_tried y_stack (j + 1) 0 (-3000000000) (nI 0) := cd_y124 hm a j 0 0 (-3000000000) (by omega) (Or.inl ⟨rfl, fun e he => absurd he (by omega)⟩)
    obtain ⟨z1, z4, hz, hw⟩ := P
    have hz0 : z1 = 0 := by
      rcases hz with ⟨p, _⟩ | ⟨p, q, ⟨e, he, he2⟩, _⟩
      · exact p
      · have := (hl e he).mp (hall e (by omega))
        omega
    subst hz0
    refine ⟨2, br_f (by decide) (Exists.intro _ (hw _ _ ⟨1, ?_⟩))⟩
    have last : wY_renew_110 post 1 0 z4 y_made y_blocks (nI (j + 1)) y_paths y_many y_lastX y_lastY y_lastBlocks y_op y_number y_kind y_target y_from y_to y_exit y_weight y_firstEdge s.2.2 y_back y_row y_length y_gone y_done y_went y_cut y_kept mk y_way y_tried y_stack := br_t rfl (cd_yempty (nm_e (nm_e (hp mk))))
    exact pk_le j 0 (fun _ => last) (fun _ => br_t rfl last) (nI_pred j)
  | succ μ ih =>
    intro j s mk tr a hμ hR hY hl
    have P : ∃ (z1 : Int32) (z4 : Int64), cd_nx y_weight a m z1 z4 ∧ ∀ post J, (∃ n, wY_renew_193 post J z1 z4 n 0 y_made y_blocks (nI (m + 1)) y_paths y_many y_lastX y_lastY y_lastBlocks y_op y_number y_kind y_target y_from y_to y_exit y_weight y_firstEdge tr y_back y_row y_length y_gone y_done y_went y_cut y_kept mk y_way y_tried y_stack) → wY_renew_124 post J a y_made y_blocks (nI (m + 1)) y_paths y_many y_lastX y_lastY y_lastBlocks y_op y_number y_kind y_target y_from y_to y_exit y_weight y_firstEdge tr y_back y_row y_length y_gone y_done y_went y_cut y_kept mk y_way y_tried y_stack (m + 1) 0 (-3000000000) (nI 0) := cd_y124 hm a m 0 0 (-3000000000) (by omega) (Or.inl ⟨rfl, fun e he => absurd he (by omega)⟩)
    obtain ⟨z1, z4, hz, hw⟩ := P
    obtain ⟨c1, c2⟩ := cd_KR_c h0 j s hR
    rcases hz with ⟨rfl, q⟩ | ⟨rfl, q0, ⟨e, he, he2⟩, q⟩
    · have hall : ∀ e, e ≤ m → s.1 e ≠ 0 := by
        intro e he
        by_cases g : e = m
        · subst g; exact c2
        · refine (hl e (by omega)).mpr ?_
          have := q e (by omega)
          omega
      have c3 := cd_lc_all (lk := s.1) (m + 1) (fun e he => hall e (by omega))
      have hj : j = m := by omega
      subst hj
      have hs : s = sf := cd_KR_u j s sf hR hsf
      subst hs
      have htr : tr = s.2.2 := by
        funext e
        by_cases g : e ≤ j
        · exact (hY.2.1 e g).2 (hall e g)
        · exact hY.2.2 e (by omega)
      subst htr
      refine ⟨2, br_f (by decide) (Exists.intro _ (hw _ _ ⟨1, ?_⟩))⟩
      have last : wY_renew_110 post 1 0 z4 y_made y_blocks (nI (j + 1)) y_paths y_many y_lastX y_lastY y_lastBlocks y_op y_number y_kind y_target y_from y_to y_exit y_weight y_firstEdge s.2.2 y_back y_row y_length y_gone y_done y_went y_cut y_kept mk y_way y_tried y_stack := br_t rfl (cd_yempty (nm_e (nm_e (hp mk))))
      exact pk_le j 0 (fun _ => last) (fun _ => br_t rfl last) (nI_pred j)
    · obtain ⟨j', s', mk', tr', r1, r2, r3, r4, r5, r6⟩ := cd_y193 (y_made := y_made) (y_blocks := y_blocks) (y_paths := y_paths) (y_many := y_many) (y_lastX := y_lastX) (y_lastY := y_lastY) (y_lastBlocks := y_lastBlocks) (y_op := y_op) (y_number := y_number) (y_kind := y_kind) (y_target := y_target) (y_exit := y_exit) (y_firstEdge := y_firstEdge) (y_back := y_back) (y_row := y_row) (y_length := y_length) (y_gone := y_gone) (y_done := y_done) (y_went := y_went) (y_cut := y_cut) (y_kept := y_kept) (y_way := y_way) (y_tried := y_tried) (y_stack := y_stack) hm hf ht h0 z4 m 0 j s mk tr (by omega) hR hY (fun f hf2 => by
        rw [hl f hf2]
        have := q f hf2
        omega)
      have r4' := r4 ⟨e, he, by omega, he2⟩
      obtain ⟨d1, d2⟩ := cd_KR_c h0 j' s' r1
      have d3 := cd_lc_le (lk := s'.1) (m + 1)
      obtain ⟨n, hn⟩ := ih j' s' mk' tr' z4 (by omega) r1 r2 r5
      exact ⟨n + 1, br_f (by decide) (Exists.intro _ (hw _ _ (r6 _ _ hn)))⟩
theorem cd_yrenew {post : SY → Prop} {m : Nat} (hm : m < 37) (hf : ∀ e, e ≤ m → y_from e = -1 ∨ ∃ t : Nat, t < 12 ∧ y_from e = nI t) (ht : ∀ e, e ≤ m → y_to e = -1 ∨ ∃ t : Nat, t < 12 ∧ y_to e = nI t) {lk0 jn0 : Nat → Int32} {sf : (Nat → Int32) × (Nat → Int32) × (Nat → Int32)} (h0 : ∀ e, e ≤ m → lk0 e = 0) (hj0 : ∀ p, p < 13 → jn0 p = nI p) (hsf : cd_KR y_weight y_from y_to m (lk0, jn0, y_tree) m sf)
    (hp : ∀ mk, post (y_made, y_blocks, (nI (m + 1)), y_paths, y_many, y_lastX, y_lastY, y_lastBlocks, y_op, y_number, y_kind, y_target, y_from, y_to, y_exit, y_weight, y_firstEdge, sf.2.2, y_back, y_row, y_length, (cd_fo y_gone 0 37 (fun _ => 0)), (cd_fo y_done 0 12 (fun _ => 0)), (cd_fo y_went 0 300 (fun _ => 0)), (upd y_cut 0 0), (cd_fo y_kept 0 2 (fun _ => 0)), mk, y_way, y_tried, y_stack)) : wpY_renew post (y_made, y_blocks, (nI (m + 1)), y_paths, y_many, y_lastX, y_lastY, y_lastBlocks, y_op, y_number, y_kind, y_target, y_from, y_to, y_exit, y_weight, y_firstEdge, y_tree, y_back, y_row, y_length, y_gone, y_done, y_went, y_cut, y_kept, y_mark, y_way, y_tried, y_stack) := by
  have hKY0 : cd_KY m (lk0, jn0, y_tree) (cd_fo y_mark 0 13 nI) (cd_fo y_tree 0 (m + 1) (fun _ => 0)) := by
    refine ⟨fun p q hp hq => ?_, fun e he => ⟨fun _ => cd_fo_in (by omega) (by omega), fun z => absurd (h0 e he) z⟩, fun e he => cd_fo_out (by omega)⟩
    have g1 := cd_sg13 hp
    have g2 := cd_sg13 hq
    rw [cd_fo_in (by omega) (by omega), cd_fo_in (by omega) (by omega), Nat.sub_zero, Nat.sub_zero, nI_eq (by omega) (by omega)]
    show _ ↔ jn0 p = jn0 q
    rw [hj0 p hp, hj0 q hq, nI_eq (by omega) (by omega)]
    exact ⟨cd_sg_inj, fun e => by rw [e]⟩
  have P : ∃ mk tr, cd_KY m (cd_ks y_from y_to m (lk0, jn0, y_tree)) mk tr ∧ ∀ post : SY → Prop, post (y_made, y_blocks, (nI (m + 1)), y_paths, y_many, y_lastX, y_lastY, y_lastBlocks, y_op, y_number, y_kind, y_target, y_from, y_to, y_exit, y_weight, y_firstEdge, tr, y_back, y_row, y_length, y_gone, y_done, y_went, y_cut, y_kept, mk, y_way, y_tried, y_stack) → wpY_join post (y_made, y_blocks, (nI (m + 1)), y_paths, y_many, y_lastX, y_lastY, y_lastBlocks, y_op, y_number, y_kind, y_target, y_from, y_to, y_exit, y_weight, y_firstEdge, (cd_fo y_tree 0 (m + 1) (fun _ => 0)), y_back, y_row, y_length, y_gone, y_done, y_went, y_cut, y_kept, (cd_fo y_mark 0 13 nI), y_way, y_tried, y_stack) (nI (m + 1) - 1) := cd_yjoin (nI_pred m) hKY0 (Nat.le_refl _) hm (h0 m (Nat.le_refl _)) (hf m (Nat.le_refl _)) (ht m (Nat.le_refl _))
  obtain ⟨mk, tr, hKY, hJn⟩ := P
  refine cd_loop (fun n i => wY_renew_2 post y_made y_blocks (nI (m + 1)) y_paths y_many y_lastX y_lastY y_lastBlocks n (nI i) y_op y_number y_kind y_target y_from y_to y_exit y_weight y_firstEdge y_tree y_back y_row y_length y_gone y_done y_went y_cut y_kept (cd_fo y_mark 0 i nI) y_way y_tried y_stack) 13
    (fun n => pk_le 13 13 (fun _ => ?_) (fun h => absurd h (by omega)))
    (fun n i hi hn => pk_le 13 i (fun h => absurd h (by omega)) (fun h => ⟨pk_in i 13 hi, nm_r (cd_fo_z (by omega) rfl) (nm_r (nI_1 i) hn)⟩))
  refine cd_loop (fun n i => wY_renew_23 post y_made y_blocks (nI (m + 1)) y_paths y_many y_lastX y_lastY y_lastBlocks n (nI i) y_op y_number y_kind y_target y_from y_to y_exit y_weight y_firstEdge (cd_fo y_tree 0 i (fun _ => 0)) y_back y_row y_length y_gone y_done y_went y_cut y_kept (cd_fo y_mark 0 13 nI) y_way y_tried y_stack) (m + 1)
    (fun n => pk_le (m + 1) (m + 1) (fun _ => ?_) (fun h => absurd h (by omega)))
    (fun n i hi hn => pk_le (m + 1) i (fun h => absurd h (by omega)) (fun h => ⟨pk_in i 37 (by omega), nm_r (cd_fo_z (by omega) rfl) (nm_r (nI_1 i) hn)⟩))
  refine hJn _ (nm_e (Exists.intro (m + 1) (cd_y69 hm (fun a ha => ?_) m 0 _ (by omega) (fun e he => absurd he (by omega)))))
  refine cd_y110 hm hf ht h0 hsf hp m 0 _ mk tr a (by omega) rfl hKY (fun e he => ?_)
  have h1 := ha e he
  show upd lk0 m 1 e ≠ 0 ↔ _
  rw [pk_un (by omega), h0 e (by omega)]
  constructor
  · intro z; exact absurd rfl z
  · intro z; omega
end
/-- the two trees -/
theorem cd_B37 {nb ne : Nat} {bo bp bk fe fr to op number kind : Nat → Int32} (h : cd_B nb ne bo bp bk fe fr to op number kind) {m : Nat} (hm : ne = m + 1) : m < 37 ∧ (∀ e, e ≤ m → fr e = -1 ∨ ∃ t : Nat, t < 12 ∧ fr e = nI t) ∧ (∀ e, e ≤ m → to e = -1 ∨ ∃ t : Nat, t < 12 ∧ to e = nI t) := by
  have h1 := cd_ne h
  obtain ⟨a, b, c, d⟩ := h
  refine ⟨by omega, fun e he => ?_, fun e he => ?_⟩
  · rcases (d e (by omega)).2 with g | ⟨t, g1, g2⟩
    · exact Or.inl g
    · exact Or.inr ⟨t, by omega, g2⟩
  · rcases (d e (by omega)).1 with g | ⟨t, g1, g2⟩
    · exact Or.inl g
    · exact Or.inr ⟨t, by omega, g2⟩
theorem cd_K0 {mn : Int32} {ne : Nat} {dm dk gone done went cut : Nat → Int32} : cd_K mn ne dm (cd_fo dk 0 2 (fun _ => 0)) gone done went cut := fun d hd h => absurd (cd_fo_in (by omega) (by omega)) h
theorem i_vc_weight {k : Nat} {u : SX} {v : SY} (I : i_Rel k u v) (hk : k + 6 ≤ 3072) (v1 : Int32) (v2 : Int32) : wpX_weight (fun r u' => wpY_weight (fun r' v' => r' = r ∧ i_Rel (k + 6) u' v') v v1 v2) u v1 v2 := by
  have I' := i_up I
  obtain ⟨x_blocks, x_builtBlocks, x_edges, x_paths, x_runX, x_runY, x_runDone, x_ops, x_operands, x_kinds, x_targets, x_builtOps, x_builtOperands, x_builtKinds, x_firstEdge, x_edgeFrom, x_edgeExit, x_edgeTo, x_edgeWeight, x_inTree, x_isBack, x_beginsPaths, x_firstPath, x_pathsFrom, x_pathsBefore, x_counts, x_dumped, x_dumpKept, x_looked, x_joined, x_met, x_nextExit, x_way⟩ := u
  obtain ⟨y_made, y_blocks, y_edges, y_paths, y_many, y_lastX, y_lastY, y_lastBlocks, y_op, y_number, y_kind, y_target, y_from, y_to, y_exit, y_weight, y_firstEdge, y_tree, y_back, y_row, y_length, y_gone, y_done, y_went, y_cut, y_kept, y_mark, y_way, y_tried, y_stack⟩ := v
  obtain ⟨n, nb, ne, np, rfl, rfl, rfl, rfl, rfl, rfl, rfl, rfl, rfl, rfl, rfl, rfl, rfl, rfl, rfl, rfl, rfl, rfl, hD, hB, hC, hK, hP⟩ := I
  have hne := cd_ne hB
  unfold wpX_weight wpX_isEdge wpY_weight
  dsimp only
  refine br_c (fun h => ?_) (fun h => ?_)
  · refine br_t rfl (cd_yin rfl (by omega) (fun _ => br_t rfl ⟨rfl, I'⟩) (fun j hj e => ?_))
    subst e; exact absurd h (nI_pos (by omega))
  obtain ⟨j, hj, rfl⟩ := nI_of h
  refine pk_le ne j (fun h1 => ?_) (fun h1 => ?_)
  · refine br_t rfl (cd_yin rfl (by omega) (fun _ => br_t rfl ⟨rfl, I'⟩) (fun i hi e => ?_))
    rw [nI_eq hj (by omega)] at e; omega
  obtain ⟨m, rfl⟩ : ∃ m, ne = m + 1 := ⟨ne - 1, by omega⟩
  obtain ⟨b1, b2, b3⟩ := cd_B37 hB rfl
  have cj := nI_clamp hj
  refine br_f (by decide) ⟨pk_in j 37 (by omega), nm_e (cd_xtree b1 b2 b3 (fun s hs => cd_xforget ?_))⟩
  refine cd_yin rfl (by omega) (fun hc => absurd rfl (hc j h1)) (fun i hi e => br_f (by decide) ⟨pk_in j 37 (by omega), nm_e (cd_yrenew b1 b2 b3 (fun e he => cd_fo_in (by omega) (by omega)) (fun p hp => cd_fo_in (by omega) (by omega)) hs (fun mk => ⟨rfl, ?_⟩))⟩)
  exact cd_mk n nb (m + 1) np hD hB (cd_C0 (cut0 := y_cut)) cd_K0 hP
end
section
section
variable {nb : Nat} {bk to ib pf pb bg : Nat → Int32} {L : Nat → Prop} {rk G : Nat → Nat}
/-- over an edge that does not end the path -/
theorem cd_nx1 (hG : cd_PG nb bk to ib L rk) (hnb : nb ≤ 12) {b k : Nat} (hb : b < nb) (hl : L b) (hk : k < cd_ec (bk b)) (hn : ¬ cd_en ib to (cd_fs bk b + k)) : ∃ t : Nat, t < nb ∧ to (cd_fs bk b + k) = nI t ∧ (to (cd_fs bk b + k)).toNatClampNeg = t ∧ L t ∧ rk t < rk b ∧ cd_wt bk to ib G b k = G t ∧ ib (cd_fs bk b + k) = 0 := by
  have h1 : ib (cd_fs bk b + k) = 0 := Decidable.byContradiction (fun z => hn (Or.inl z))
  have h2 : ¬ to (cd_fs bk b + k) = -1 := fun z => hn (Or.inr z)
  obtain ⟨t, ht, e, lt, r⟩ := ((hG.2 b hb hl).2 k hk).resolve_left h2
  have c : (to (cd_fs bk b + k)).toNatClampNeg = t := by rw [e, cd_cl (by omega)]
  refine ⟨t, ht, e, c, lt, r h1, ?_, h1⟩
  unfold cd_wt
  rw [if_pos ⟨h1, h2⟩, c]
theorem cd_wt1 {b k : Nat} (h : cd_en ib to (cd_fs bk b + k)) : cd_wt bk to ib G b k = 1 := by
  unfold cd_wt
  refine if_neg (fun z => ?_)
  rcases h with h | h
  · exact h z.1
  · exact z.2 h
theorem cd_pbv (hG : cd_PG nb bk to ib L rk) (hN : cd_PN nb bk to ib pf pb L rk G) (hnb : nb ≤ 12) {b k : Nat} (hb : b < nb) (hl : L b) (hk : k < cd_ec (bk b)) : (pb (cd_fs bk b + k)).toNatClampNeg = cd_sm (cd_wt bk to ib G b) k ∧ pb (cd_fs bk b + k) = nI (cd_sm (cd_wt bk to ib G b) k) ∧ cd_sm (cd_wt bk to ib G b) k + cd_wt bk to ib G b k ≤ G b ∧ G b ≤ 531441 := by
  obtain ⟨n1, n2, n3, n4⟩ := hN b hb hl
  have h1 := cd_G3 hG hN hnb hb hl
  have h2 := cd_sm_st (f := cd_wt bk to ib G b) hk
  rw [← n2] at h2
  refine ⟨?_, n4 k hk, h2, h1⟩
  rw [n4 k hk, cd_cl (by omega)]
theorem cd_vp_len (hG : cd_PG nb bk to ib L rk) (hnb : nb ≤ 12) : ∀ l b, b < nb → L b → cd_vp bk to ib b l → l.length ≤ rk b + 1
  | [], b, _, _, h => absurd h (by unfold cd_vp; exact id)
  | e :: l, b, hb, hl, h => by
    unfold cd_vp at h
    obtain ⟨⟨k, hk, rfl⟩, h⟩ := h
    rcases h with ⟨_, rfl⟩ | ⟨hn, hv⟩
    · show 1 ≤ rk b + 1
      omega
    · obtain ⟨t, ht, e1, e2, lt, r, _⟩ := cd_nx1 (G := rk) hG hnb hb hl hk hn
      rw [e2] at hv
      have := cd_vp_len hG hnb l t ht lt hv
      show l.length + 1 ≤ rk b + 1
      omega
theorem cd_vp_37 (hG : cd_PG nb bk to ib L rk) (hnb : nb ≤ 12) : ∀ l b, b < nb → L b → cd_vp bk to ib b l → ∀ x, x ∈ l → x < 37
  | [], b, _, _, h => absurd h (by unfold cd_vp; exact id)
  | e :: l, b, hb, hl, h => by
    unfold cd_vp at h
    obtain ⟨⟨k, hk, rfl⟩, h⟩ := h
    have h1 := cd_fs_lt (kd := bk) hb
    have h2 := (cd_fs_b bk nb).2
    intro x hx
    rcases List.mem_cons.mp hx with rfl | hx
    · omega
    rcases h with ⟨_, rfl⟩ | ⟨hn, hv⟩
    · exact absurd hx (by simp)
    · obtain ⟨t, ht, e1, e2, lt, r, _⟩ := cd_nx1 (G := rk) hG hnb hb hl hk hn
      rw [e2] at hv
      exact cd_vp_37 hG hnb l t ht lt hv x hx
theorem cd_es_lt (hG : cd_PG nb bk to ib L rk) (hN : cd_PN nb bk to ib pf pb L rk G) (hnb : nb ≤ 12) : ∀ l b, b < nb → L b → cd_vp bk to ib b l → cd_es pb l < G b
  | [], b, _, _, h => absurd h (by unfold cd_vp; exact id)
  | e :: l, b, hb, hl, h => by
    unfold cd_vp at h
    obtain ⟨⟨k, hk, rfl⟩, h⟩ := h
    obtain ⟨p1, p2, p3, p4⟩ := cd_pbv hG hN hnb hb hl hk
    show (pb (cd_fs bk b + k)).toNatClampNeg + cd_es pb l < G b
    rw [p1]
    rcases h with ⟨he, rfl⟩ | ⟨hn, hv⟩
    · rw [cd_wt1 he] at p3
      show _ + 0 < G b
      omega
    · obtain ⟨t, ht, e1, e2, lt, r, ew, _⟩ := cd_nx1 (G := G) hG hnb hb hl hk hn
      rw [e2] at hv
      have := cd_es_lt hG hN hnb l t ht lt hv
      omega
theorem cd_es_inj (hG : cd_PG nb bk to ib L rk) (hN : cd_PN nb bk to ib pf pb L rk G) (hnb : nb ≤ 12) : ∀ l b l', b < nb → L b → cd_vp bk to ib b l → cd_vp bk to ib b l' → cd_es pb l = cd_es pb l' → l = l'
  | [], b, _, _, _, h, _, _ => absurd h (by unfold cd_vp; exact id)
  | _ :: _, b, [], _, _, _, h, _ => absurd h (by unfold cd_vp; exact id)
  | e :: l, b, e' :: l', hb, hl, h, h', he => by
    have hlt := cd_es_lt hG hN hnb (e :: l) b hb hl h
    unfold cd_vp at h h'
    obtain ⟨⟨k, hk, rfl⟩, h⟩ := h
    obtain ⟨⟨k', hk', rfl⟩, h'⟩ := h'
    obtain ⟨p1, p2, p3, p4⟩ := cd_pbv hG hN hnb hb hl hk
    obtain ⟨q1, q2, q3, q4⟩ := cd_pbv hG hN hnb hb hl hk'
    have he2 : (pb (cd_fs bk b + k)).toNatClampNeg + cd_es pb l = (pb (cd_fs bk b + k')).toNatClampNeg + cd_es pb l' := he
    rw [p1, q1] at he2
    have b1 : cd_es pb l < cd_wt bk to ib G b k := by
      rcases h with ⟨hx, rfl⟩ | ⟨hn, hv⟩
      · rw [cd_wt1 hx]; exact Nat.zero_lt_one
      · obtain ⟨t, ht, e1, e2, lt, r, ew, _⟩ := cd_nx1 (G := G) hG hnb hb hl hk hn
        rw [e2] at hv
        rw [ew]; exact cd_es_lt hG hN hnb l t ht lt hv
    have b2 : cd_es pb l' < cd_wt bk to ib G b k' := by
      rcases h' with ⟨hx, rfl⟩ | ⟨hn, hv⟩
      · rw [cd_wt1 hx]; exact Nat.zero_lt_one
      · obtain ⟨t, ht, e1, e2, lt, r, ew, _⟩ := cd_nx1 (G := G) hG hnb hb hl hk' hn
        rw [e2] at hv
        rw [ew]; exact cd_es_lt hG hN hnb l' t ht lt hv
    have hkk : k = k' := by
      by_cases g1 : k < k'
      · have := cd_sm_st (f := cd_wt bk to ib G b) g1
        omega
      · by_cases g2 : k' < k
        · have := cd_sm_st (f := cd_wt bk to ib G b) g2
          omega
        · omega
    subst hkk
    rcases h with ⟨hx, rfl⟩ | ⟨hn, hv⟩
    · rcases h' with ⟨hx', rfl⟩ | ⟨hn', hv'⟩
      · rfl
      · exact absurd hx hn'
    · rcases h' with ⟨hx', rfl⟩ | ⟨hn', hv'⟩
      · exact absurd hx' hn
      · obtain ⟨t, ht, e1, e2, lt, r, ew, _⟩ := cd_nx1 (G := G) hG hnb hb hl hk hn
        rw [e2] at hv hv'
        rw [cd_es_inj hG hN hnb l t l' ht lt hv hv' (by omega)]
/-- the number tells the begin -/
theorem cd_fp_st {b c : Nat} (h : b < c) (hb : bg b ≠ 0) : cd_fp bg G b + G b ≤ cd_fp bg G c := by
  have := cd_sm_st (f := fun c => if bg c = 0 then 0 else G c) h
  rw [if_neg hb] at this
  exact this
theorem cd_num_inj (hG : cd_PG nb bk to ib L rk) (hN : cd_PN nb bk to ib pf pb L rk G) (hnb : nb ≤ 12) (hL : ∀ b, b < nb → bg b ≠ 0 → L b) {b b' : Nat} {l l' : List Nat} (hb : b < nb) (hb' : b' < nb) (h1 : bg b ≠ 0) (h1' : bg b' ≠ 0) (hv : cd_vp bk to ib b l) (hv' : cd_vp bk to ib b' l') (he : cd_fp bg G b + cd_es pb l = cd_fp bg G b' + cd_es pb l') : b = b' ∧ l = l' := by
  have i1 := cd_es_lt hG hN hnb l b hb (hL b hb h1) hv
  have i2 := cd_es_lt hG hN hnb l' b' hb' (hL b' hb' h1') hv'
  have hbb : b = b' := by
    by_cases g1 : b < b'
    · have := cd_fp_st (G := G) g1 h1
      omega
    · by_cases g2 : b' < b
      · have := cd_fp_st (G := G) g2 h1'
        omega
      · omega
  subst hbb
  exact ⟨rfl, cd_es_inj hG hN hnb l b l' hb (hL b hb h1) hv hv' (by omega)⟩
theorem cd_rw_u {row len : Nat → Int32} {p : Nat} {l l' : List Nat} (h : cd_rw row len p l) (h' : cd_rw row len p l') (h1 : l.length < 1000) (h1' : l'.length < 1000) (h2 : ∀ x, x ∈ l → x < 1000) (h2' : ∀ x, x ∈ l' → x < 1000) : l = l' := by
  have e := h.1.symm.trans h'.1
  rw [nI_eq (by omega) (by omega)] at e
  refine List.ext_getElem e (fun i hi hi' => ?_)
  have g := (h.2 i hi).symm.trans (h'.2 i hi')
  have g1 := h2 _ (List.getElem_mem hi)
  have g2 := h2' _ (List.getElem_mem hi')
  rwa [nI_eq (by omega) (by omega)] at g
/-- a way that has not ended -/
def cd_ch (bk to ib : Nat → Int32) : Nat → List Nat → Nat → Prop
  | b, [], c => b = c
  | b, e :: l, c => (∃ k, k < cd_ec (bk b) ∧ e = cd_fs bk b + k) ∧ ¬ cd_en ib to e ∧ cd_ch bk to ib (to e).toNatClampNeg l c
theorem cd_ch_vp {e : Nat} : ∀ l b c, cd_ch bk to ib b l c → (∃ k, k < cd_ec (bk c) ∧ e = cd_fs bk c + k) → cd_en ib to e → cd_vp bk to ib b (l ++ [e])
  | [], b, c, h, hk, he => by
    unfold cd_ch at h
    subst h
    show cd_vp bk to ib b [e]
    unfold cd_vp
    exact ⟨hk, Or.inl ⟨he, rfl⟩⟩
  | f :: l, b, c, h, hk, he => by
    unfold cd_ch at h
    show cd_vp bk to ib b (f :: (l ++ [e]))
    unfold cd_vp
    exact ⟨h.1, Or.inr ⟨h.2.1, cd_ch_vp l _ c h.2.2 hk he⟩⟩
theorem cd_ch_s {e : Nat} : ∀ l b c, cd_ch bk to ib b l c → (∃ k, k < cd_ec (bk c) ∧ e = cd_fs bk c + k) → ¬ cd_en ib to e → cd_ch bk to ib b (l ++ [e]) (to e).toNatClampNeg
  | [], b, c, h, hk, he => by
    unfold cd_ch at h
    subst h
    show cd_ch bk to ib b [e] _
    unfold cd_ch
    exact ⟨hk, he, by unfold cd_ch; rfl⟩
  | f :: l, b, c, h, hk, he => by
    unfold cd_ch at h
    show cd_ch bk to ib b (f :: (l ++ [e])) _
    unfold cd_ch
    exact ⟨h.1, h.2.1, cd_ch_s l _ c h.2.2 hk he⟩
theorem cd_es_s {e : Nat} : ∀ l, cd_es pb (l ++ [e]) = cd_es pb l + (pb e).toNatClampNeg
  | [] => by
    show (pb e).toNatClampNeg + 0 = 0 + _
    omega
  | f :: l => by
    show (pb f).toNatClampNeg + cd_es pb (l ++ [e]) = (pb f).toNatClampNeg + cd_es pb l + _
    rw [cd_es_s l]
    omega
theorem cd_ch_len (hG : cd_PG nb bk to ib L rk) (hnb : nb ≤ 12) : ∀ l b c, b < nb → L b → cd_ch bk to ib b l c → c < nb ∧ L c ∧ rk c + l.length ≤ rk b
  | [], b, c, hb, hl, h => by
    unfold cd_ch at h
    subst h
    exact ⟨hb, hl, Nat.le_refl _⟩
  | f :: l, b, c, hb, hl, h => by
    unfold cd_ch at h
    obtain ⟨⟨k, hk, rfl⟩, hn, hc⟩ := h
    obtain ⟨t, ht, e1, e2, lt, r, _⟩ := cd_nx1 (G := rk) hG hnb hb hl hk hn
    rw [e2] at hc
    obtain ⟨a1, a2, a3⟩ := cd_ch_len hG hnb l t c ht lt hc
    refine ⟨a1, a2, ?_⟩
    show rk c + (l.length + 1) ≤ rk b
    omega
end
section
variable {x_blocks x_builtBlocks x_edges x_paths x_runX x_runY x_runDone : Int32} {x_ops x_operands x_kinds x_targets x_builtOps x_builtOperands x_builtKinds x_firstEdge x_edgeFrom x_edgeExit x_edgeTo x_edgeWeight x_inTree x_isBack x_beginsPaths x_firstPath x_pathsFrom x_pathsBefore x_counts x_dumped x_dumpKept x_looked x_joined x_met x_nextExit x_way : Nat → Int32}
theorem cd_xend {post : Int32 → Prop} {e : Nat} {q : Int32} (hq : q = nI e) (he : e < 37) (h1 : cd_en x_isBack x_edgeTo e → post 1) (h0 : ¬ cd_en x_isBack x_edgeTo e → post 0) : wpX_endsPath post (x_blocks, x_builtBlocks, x_edges, x_paths, x_runX, x_runY, x_runDone, x_ops, x_operands, x_kinds, x_targets, x_builtOps, x_builtOperands, x_builtKinds, x_firstEdge, x_edgeFrom, x_edgeExit, x_edgeTo, x_edgeWeight, x_inTree, x_isBack, x_beginsPaths, x_firstPath, x_pathsFrom, x_pathsBefore, x_counts, x_dumped, x_dumpKept, x_looked, x_joined, x_met, x_nextExit, x_way) q := by
  subst hq
  unfold wpX_endsPath
  dsimp only
  rw [cd_cl (by omega)]
  refine ⟨pk_in e 37 he, br_c (fun h => ⟨pk_in e 37 he, br_c (fun g => h1 (Or.inr g)) (fun g => h0 (fun z => ?_))⟩) (fun h => h1 (Or.inl h))⟩
  rcases z with z | z
  · exact z h
  · exact g z
theorem cd_xbegin {post : Int32 → Prop} {nb b k : Nat} {FP : Nat → Nat} (hnb : nb ≤ 12) (hb : b < nb) (hk : k < 1000000000) (hf : ∀ c, c < nb → x_firstPath c = nI (FP c) ∧ FP c < 1000000000) (h1 : ∀ c, b < c → c < nb → x_beginsPaths c ≠ 0 → k < FP c) (h2 : x_beginsPaths b ≠ 0 ∧ FP b ≤ k) (hp : post (nI b)) : wpX_beginOfPath post (x_blocks, (nI nb), x_edges, x_paths, x_runX, x_runY, x_runDone, x_ops, x_operands, x_kinds, x_targets, x_builtOps, x_builtOperands, x_builtKinds, x_firstEdge, x_edgeFrom, x_edgeExit, x_edgeTo, x_edgeWeight, x_inTree, x_isBack, x_beginsPaths, x_firstPath, x_pathsFrom, x_pathsBefore, x_counts, x_dumped, x_dumpKept, x_looked, x_joined, x_met, x_nextExit, x_way) (nI k) := by
  have H : ∀ d i g, i + d = nb → (b < i → g = nI b) → wX_beginOfPath_4 post (nI k) x_blocks (nI nb) x_edges x_paths x_runX x_runY x_runDone x_ops x_operands x_kinds x_targets x_builtOps x_builtOperands x_builtKinds x_firstEdge x_edgeFrom x_edgeExit x_edgeTo x_edgeWeight x_inTree x_isBack x_beginsPaths x_firstPath x_pathsFrom x_pathsBefore x_counts x_dumped x_dumpKept x_looked x_joined x_met x_nextExit x_way (d + 1) g (nI i) := by
    intro d
    induction d with
    | zero =>
      intro i g hi hg
      refine pk_le nb i (fun _ => ?_) (fun h => absurd h (by omega))
      rw [hg (by omega)]; exact hp
    | succ d ih =>
      intro i g hi hg
      refine pk_le nb i (fun h => absurd h (by omega)) (fun _ => ⟨pk_in i 12 (by omega), ?_⟩)
      rw [cd_cl (by omega)]
      obtain ⟨f1, f2⟩ := hf i (by omega)
      refine br_c (fun z => nm_r (nI_1 i) (ih (i + 1) g (by omega) (fun hbi => ?_))) (fun z => ⟨pk_in i 12 (by omega), pk_lt k (FP i) (fun hlt => nm_r (nI_1 i) (ih (i + 1) g (by omega) (fun hbi => ?_))) (fun hle => nm_r (nI_1 i) (ih (i + 1) (nI i) (by omega) (fun hbi => ?_))) rfl f1⟩)
      · by_cases e : b = i
        · subst e; exact absurd z h2.1
        · exact hg (by omega)
      · by_cases e : b = i
        · subst e; omega
        · exact hg (by omega)
      · by_cases e : b = i
        · subst e; rfl
        · have := h1 i (by omega) (by omega) z
          omega
  refine Exists.intro (nb - 1 + 1) (H (nb - 1) 1 0 (by omega) (fun h => ?_))
  have : b = 0 := by omega
  subst this
  rfl
theorem cd_xedgeon {post : Int32 → Prop} {b k0 r : Nat} {SM : Nat → Nat} (hb : b < 12) (hfe : x_firstEdge b = nI (cd_fs x_builtKinds b)) (hk : k0 < cd_ec (x_builtKinds b)) (h37 : cd_fs x_builtKinds b + cd_ec (x_builtKinds b) ≤ 36) (hr : r < 1000000000) (hpb : ∀ k, k < cd_ec (x_builtKinds b) → x_pathsBefore (cd_fs x_builtKinds b + k) = nI (SM k) ∧ SM k < 1000000000) (h1 : SM k0 ≤ r) (h2 : ∀ k, k0 < k → k < cd_ec (x_builtKinds b) → r < SM k) (hp : post (nI (cd_fs x_builtKinds b + k0))) : wpX_edgeOnPath post (x_blocks, x_builtBlocks, x_edges, x_paths, x_runX, x_runY, x_runDone, x_ops, x_operands, x_kinds, x_targets, x_builtOps, x_builtOperands, x_builtKinds, x_firstEdge, x_edgeFrom, x_edgeExit, x_edgeTo, x_edgeWeight, x_inTree, x_isBack, x_beginsPaths, x_firstPath, x_pathsFrom, x_pathsBefore, x_counts, x_dumped, x_dumpKept, x_looked, x_joined, x_met, x_nextExit, x_way) (nI b) (nI r) := by
  have H : ∀ d i g, i + d = cd_ec (x_builtKinds b) → (k0 < i → g = nI (cd_fs x_builtKinds b + k0)) → wX_edgeOnPath_25 post (nI r) (nI (cd_fs x_builtKinds b + cd_ec (x_builtKinds b))) x_blocks x_builtBlocks x_edges x_paths x_runX x_runY x_runDone x_ops x_operands x_kinds x_targets x_builtOps x_builtOperands x_builtKinds x_firstEdge x_edgeFrom x_edgeExit x_edgeTo x_edgeWeight x_inTree x_isBack x_beginsPaths x_firstPath x_pathsFrom x_pathsBefore x_counts x_dumped x_dumpKept x_looked x_joined x_met x_nextExit x_way (d + 1) g (nI (cd_fs x_builtKinds b + i)) := by
    intro d
    induction d with
    | zero =>
      intro i g hi hg
      refine pk_le (cd_fs x_builtKinds b + cd_ec (x_builtKinds b)) (cd_fs x_builtKinds b + i) (fun _ => ?_) (fun h => absurd h (by omega))
      rw [hg (by omega)]; exact hp
    | succ d ih =>
      intro i g hi hg
      refine pk_le (cd_fs x_builtKinds b + cd_ec (x_builtKinds b)) (cd_fs x_builtKinds b + i) (fun h => absurd h (by omega)) (fun _ => ⟨pk_in (cd_fs x_builtKinds b + i) 37 (by omega), ?_⟩)
      rw [cd_cl (by omega)]
      obtain ⟨f1, f2⟩ := hpb i (by omega)
      refine pk_lt r (SM i) (fun hlt => nm_r (nI_1 _) (ih (i + 1) g (by omega) (fun hbi => ?_))) (fun hle => nm_r (nI_1 _) (ih (i + 1) _ (by omega) (fun hbi => ?_))) rfl f1
      · by_cases e : k0 = i
        · subst e; omega
        · exact hg (by omega)
      · by_cases e : k0 = i
        · subst e; rfl
        · have := h2 i (by omega) (by omega)
          omega
  have hr1 := cd_ec_r (x_builtKinds b)
  unfold wpX_edgeOnPath
  dsimp only
  rw [cd_cl (by omega)]
  refine ⟨pk_in b 12 hb, nm_r hfe ⟨pk_in b 12 hb, cd_xec (nm_r (nI_add _ _) (nm_r (nI_1 _) (Exists.intro (cd_ec (x_builtKinds b) - 1 + 1) (H (cd_ec (x_builtKinds b) - 1) 1 _ (by omega) (fun h => ?_)))))⟩⟩
  have : k0 = 0 := by omega
  subst this
  rfl
end
end
section
section
variable {x_blocks x_builtBlocks x_edges x_paths x_runX x_runY x_runDone : Int32} {x_ops x_operands x_kinds x_targets x_builtOps x_builtOperands x_builtKinds x_firstEdge x_edgeFrom x_edgeExit x_edgeTo x_edgeWeight x_inTree x_isBack x_beginsPaths x_firstPath x_pathsFrom x_pathsBefore x_counts x_dumped x_dumpKept x_looked x_joined x_met x_nextExit x_way : Nat → Int32}
theorem cd_xpe {post : Int32 → Prop} {v2 : Int32} {nb : Nat} {L : Nat → Prop} {rk G : Nat → Nat} (hnb : nb ≤ 12) (hG : cd_PG nb x_builtKinds x_edgeTo x_isBack L rk) (hN : cd_PN nb x_builtKinds x_edgeTo x_isBack x_pathsFrom x_pathsBefore L rk G) (hfe : ∀ b, b < nb → x_firstEdge b = nI (cd_fs x_builtKinds b)) :
    ∀ l b j, b < nb → L b → cd_vp x_builtKinds x_edgeTo x_isBack b l → j + l.length ≤ nb → (∀ i (h : i < l.length), v2 = nI (j + i) → post (nI l[i])) → ((∀ i, i < l.length → ¬ v2 = nI (j + i)) → post (-1)) → ∃ n, wX_pathEdge_29 post v2 x_blocks (nI nb) x_edges x_paths x_runX x_runY x_runDone x_ops x_operands x_kinds x_targets x_builtOps x_builtOperands x_builtKinds x_firstEdge x_edgeFrom x_edgeExit x_edgeTo x_edgeWeight x_inTree x_isBack x_beginsPaths x_firstPath x_pathsFrom x_pathsBefore x_counts x_dumped x_dumpKept x_looked x_joined x_met x_nextExit x_way n (nI b) (nI (cd_es x_pathsBefore l)) (nI j)
  | [], b, _, _, _, h, _, _, _ => absurd h (by unfold cd_vp; exact id)
  | e :: l, b, j, hb, hl, h, hj, hp1, hp0 => by
    have hj' : j + (l.length + 1) ≤ nb := hj
    have hlt := cd_es_lt hG hN hnb (e :: l) b hb hl h
    have hrec := fun (t : Nat) => cd_xpe (post := post) (v2 := v2) hnb hG hN hfe l t (j + 1)
    unfold cd_vp at h
    obtain ⟨⟨k, hk, rfl⟩, h⟩ := h
    obtain ⟨p1, p2, p3, p4⟩ := cd_pbv hG hN hnb hb hl hk
    have h36 : cd_fs x_builtKinds b + cd_ec (x_builtKinds b) ≤ 36 := by
      have h1 := cd_fs_lt (kd := x_builtKinds) hb
      have h2 := (cd_fs_b x_builtKinds nb).2
      omega
    have hes : cd_es x_pathsBefore ((cd_fs x_builtKinds b + k) :: l) = cd_sm (cd_wt x_builtKinds x_edgeTo x_isBack G b) k + cd_es x_pathsBefore l := by
      show (x_pathsBefore (cd_fs x_builtKinds b + k)).toNatClampNeg + _ = _
      rw [p1]
    rw [hes]
    rw [hes] at hlt
    have b1 : cd_es x_pathsBefore l < cd_wt x_builtKinds x_edgeTo x_isBack G b k := by
      rcases h with ⟨hx, rfl⟩ | ⟨hn, hv⟩
      · rw [cd_wt1 hx]; exact Nat.zero_lt_one
      · obtain ⟨t, ht, e1, e2, lt, r, ew, _⟩ := cd_nx1 (G := G) hG hnb hb hl hk hn
        rw [e2] at hv
        rw [ew]; exact cd_es_lt hG hN hnb l t ht lt hv
    have on : ∀ {P : Int32 → Prop}, P (nI (cd_fs x_builtKinds b + k)) → wpX_edgeOnPath P (x_blocks, (nI nb), x_edges, x_paths, x_runX, x_runY, x_runDone, x_ops, x_operands, x_kinds, x_targets, x_builtOps, x_builtOperands, x_builtKinds, x_firstEdge, x_edgeFrom, x_edgeExit, x_edgeTo, x_edgeWeight, x_inTree, x_isBack, x_beginsPaths, x_firstPath, x_pathsFrom, x_pathsBefore, x_counts, x_dumped, x_dumpKept, x_looked, x_joined, x_met, x_nextExit, x_way) (nI b) (nI (cd_sm (cd_wt x_builtKinds x_edgeTo x_isBack G b) k + cd_es x_pathsBefore l)) := fun hP =>
      cd_xedgeon (SM := cd_sm (cd_wt x_builtKinds x_edgeTo x_isBack G b)) (by omega) (hfe b hb) hk h36 (by omega) (fun i hi => by
        obtain ⟨q1, q2, q3, q4⟩ := cd_pbv hG hN hnb hb hl hi
        exact ⟨q2, by omega⟩) (by omega) (fun i h1 h2 => by
        have := cd_sm_st (f := cd_wt x_builtKinds x_edgeTo x_isBack G b) h1
        omega) hP
    by_cases hv2 : nI j = v2
    · refine ⟨1, pk_le nb j (fun z => absurd z (by omega)) (fun _ => on (br_t hv2 ?_))⟩
      exact hp1 0 (Nat.zero_lt_succ _) hv2.symm
    · by_cases hen : cd_en x_isBack x_edgeTo (cd_fs x_builtKinds b + k)
      · refine ⟨1, pk_le nb j (fun z => absurd z (by omega)) (fun _ => on (br_f hv2 (cd_xend rfl (by omega) (fun _ => br_f (by decide) (hp0 (fun i hi => ?_))) (fun z => absurd hen z))))⟩
        rcases h with ⟨hx, rfl⟩ | ⟨hn, hv⟩
        · have : i = 0 := by
            have hi' : i < 0 + 1 := hi
            omega
          subst this
          exact fun z => hv2 z.symm
        · exact absurd hen hn
      · rcases h with ⟨hx, _⟩ | ⟨hn, hv⟩
        · exact absurd hx hen
        · obtain ⟨t, ht, e1, e2, lt, r, ew, _⟩ := cd_nx1 (G := G) hG hnb hb hl hk hn
          rw [e2] at hv
          obtain ⟨n, hn2⟩ := hrec t ht lt hv (by omega) (fun i hi ev => by
              have := hp1 (i + 1) (Nat.succ_lt_succ hi) (by rw [ev]; exact congrArg nI (by omega))
              exact this) (fun hno => hp0 (fun i hi z => by
              cases i with
              | zero => exact hv2 z.symm
              | succ i => exact hno i (Nat.lt_of_succ_lt_succ hi) (by rw [z]; exact congrArg nI (by omega))))
          refine ⟨n + 1, pk_le nb j (fun z => absurd z (by omega)) (fun _ => on (br_f hv2 (cd_xend rfl (by omega) (fun z => absurd z hen) (fun _ => br_t rfl ⟨pk_in (cd_fs x_builtKinds b + k) 37 (by omega), ?_⟩))))⟩
          rw [cd_cl (by omega)]
          refine nm_r (e' := nI (cd_es x_pathsBefore l)) ?_ ⟨pk_in (cd_fs x_builtKinds b + k) 37 (by omega), nm_r e1 (nm_r (nI_1 j) hn2)⟩
          rw [p2, pk_sub (by omega)]
          exact congrArg nI (by omega)
end
theorem i_vc_pathEdge {k : Nat} {u : SX} {v : SY} (I : i_Rel k u v) (hk : k + 6 ≤ 3072) (v1 : Int32) (v2 : Int32) : wpX_pathEdge (fun r => wpY_pathEdge (fun r' => r' = r ∧ i_Rel (k + 6) u v) v v1 v2) u v1 v2 := by
  have I' := i_up I
  obtain ⟨x_blocks, x_builtBlocks, x_edges, x_paths, x_runX, x_runY, x_runDone, x_ops, x_operands, x_kinds, x_targets, x_builtOps, x_builtOperands, x_builtKinds, x_firstEdge, x_edgeFrom, x_edgeExit, x_edgeTo, x_edgeWeight, x_inTree, x_isBack, x_beginsPaths, x_firstPath, x_pathsFrom, x_pathsBefore, x_counts, x_dumped, x_dumpKept, x_looked, x_joined, x_met, x_nextExit, x_way⟩ := u
  obtain ⟨y_made, y_blocks, y_edges, y_paths, y_many, y_lastX, y_lastY, y_lastBlocks, y_op, y_number, y_kind, y_target, y_from, y_to, y_exit, y_weight, y_firstEdge, y_tree, y_back, y_row, y_length, y_gone, y_done, y_went, y_cut, y_kept, y_mark, y_way, y_tried, y_stack⟩ := v
  obtain ⟨n, nb, ne, np, rfl, rfl, rfl, rfl, rfl, rfl, rfl, rfl, rfl, rfl, rfl, rfl, rfl, rfl, rfl, rfl, rfl, rfl, hD, hB, hC, hK, hP⟩ := I
  have hne := cd_ne hB
  by_cases hz : nb = 0
  · have hz2 := hP.1 hz
    subst hz2
    have e0 : ne = 0 := by omega
    unfold wpX_pathEdge wpX_isPath wpY_pathEdge
    dsimp only
    refine br_c (fun h => ?_) (fun h => ?_)
    · exact br_t rfl (pk_le ne 0 (fun _ => ⟨rfl, I'⟩) (fun z => absurd z (by omega)))
    · obtain ⟨j, hj, rfl⟩ := nI_of h
      exact pk_le 0 j (fun _ => br_t rfl (pk_le ne 0 (fun _ => ⟨rfl, I'⟩) (fun z => absurd z (by omega)))) (fun z => absurd z (by omega))
  · obtain ⟨L, rk, G, hG, hN, hPB, hL, hF, hnp, ny, rfl, ho, hR⟩ := hP.2 (by omega)
    have hnb : nb ≤ 12 := hne.1
    have hnp2 : np ≤ 6377292 := by rw [hnp]; exact cd_fp3 hG hN hL hnb (Nat.le_refl nb)
    unfold wpX_pathEdge wpX_isPath wpX_tooManyPaths
    dsimp only
    have Y0 : (y_many = 0 → ∀ t : Nat, t < ny → ¬ v1 = nI t) → wpY_pathEdge (fun r' => r' = -1 ∧ i_Rel (k + 6) ((nI n), (nI nb), (nI ne), (nI np), x_runX, x_runY, x_runDone, x_ops, x_operands, x_kinds, x_targets, x_builtOps, x_builtOperands, x_builtKinds, x_firstEdge, x_edgeFrom, x_edgeExit, x_edgeTo, x_edgeWeight, x_inTree, x_isBack, x_beginsPaths, x_firstPath, x_pathsFrom, x_pathsBefore, x_counts, x_dumped, x_dumpKept, x_looked, x_joined, x_met, x_nextExit, x_way) ((nI n), (nI nb), (nI ne), (nI ny), y_many, x_runX, x_runY, x_runDone, y_op, y_number, y_kind, y_target, x_edgeFrom, x_edgeTo, x_edgeExit, x_edgeWeight, x_firstEdge, x_inTree, x_isBack, y_row, y_length, y_gone, y_done, y_went, y_cut, x_dumpKept, y_mark, y_way, y_tried, y_stack)) ((nI n), (nI nb), (nI ne), (nI ny), y_many, x_runX, x_runY, x_runDone, y_op, y_number, y_kind, y_target, x_edgeFrom, x_edgeTo, x_edgeExit, x_edgeWeight, x_firstEdge, x_inTree, x_isBack, y_row, y_length, y_gone, y_done, y_went, y_cut, x_dumpKept, y_mark, y_way, y_tried, y_stack) v1 v2 := fun hb =>
      pk_le ne 0 (fun z => absurd z (by omega)) (fun _ => br_c (fun hm => cd_yin rfl (by omega) (fun _ => br_t rfl ⟨rfl, I'⟩) (fun t ht e => absurd e (hb hm t ht))) (fun _ => ⟨rfl, I'⟩))
    refine br_c (fun h => ?_) (fun h => ?_)
    · refine br_t rfl (Y0 (fun _ t ht e => ?_))
      subst e; exact absurd h (nI_pos (by omega))
    · obtain ⟨j, hj, rfl⟩ := nI_of h
      refine pk_le np j (fun h1 => ?_) (fun h1 => ?_)
      · refine br_t rfl (Y0 (fun hm t ht e => ?_))
        rw [nI_eq hj (by omega)] at e
        rcases ho with ho | ho
        · omega
        · exact ho.1 hm
      · refine pk_le np 300 (fun h3 => ?_) (fun h3 => ?_)
        · have ho' : y_many = 0 ∧ ny = np ∧ np ≤ 300 := by
            rcases ho with ho | ho
            · exact ho
            · omega
          obtain ⟨b, l, hb, hbg, hvp, hpn, hrw⟩ := hR j (by omega)
          have hlb := hL b hb hbg
          have hlen := cd_vp_len hG hnb l b hb hlb hvp
          have hrk := (hG.2 b hb hlb).1
          have heslt := cd_es_lt hG hN hnb l b hb hlb hvp
          have hfpb := cd_fp3 hG hN hL hnb (Nat.le_of_lt hb)
          have Yv : ∀ (r : Int32), ((∀ i (h : i < l.length), v2 = nI i → nI l[i] = r) ∧ ((∀ i, i < l.length → ¬ v2 = nI i) → -1 = r)) → wpY_pathEdge (fun r' => r' = r ∧ i_Rel (k + 6) ((nI n), (nI nb), (nI ne), (nI np), x_runX, x_runY, x_runDone, x_ops, x_operands, x_kinds, x_targets, x_builtOps, x_builtOperands, x_builtKinds, x_firstEdge, x_edgeFrom, x_edgeExit, x_edgeTo, x_edgeWeight, x_inTree, x_isBack, x_beginsPaths, x_firstPath, x_pathsFrom, x_pathsBefore, x_counts, x_dumped, x_dumpKept, x_looked, x_joined, x_met, x_nextExit, x_way) ((nI n), (nI nb), (nI ne), (nI ny), y_many, x_runX, x_runY, x_runDone, y_op, y_number, y_kind, y_target, x_edgeFrom, x_edgeTo, x_edgeExit, x_edgeWeight, x_firstEdge, x_inTree, x_isBack, y_row, y_length, y_gone, y_done, y_went, y_cut, x_dumpKept, y_mark, y_way, y_tried, y_stack)) ((nI n), (nI nb), (nI ne), (nI ny), y_many, x_runX, x_runY, x_runDone, y_op, y_number, y_kind, y_target, x_edgeFrom, x_edgeTo, x_edgeExit, x_edgeWeight, x_firstEdge, x_inTree, x_isBack, y_row, y_length, y_gone, y_done, y_went, y_cut, x_dumpKept, y_mark, y_way, y_tried, y_stack) (nI j) v2 := by
            intro r hr
            refine pk_le ne 0 (fun z => absurd z (by omega)) (fun _ => br_t ho'.1 (cd_yin rfl (by omega) (fun hc => absurd rfl (hc j (by omega))) (fun t ht e => br_f (by decide) ⟨pk_in j 300 (by omega), ?_⟩)))
            rw [nI_clamp hj, hrw.1]
            refine cd_yin rfl (by omega) (fun hc => br_t rfl ⟨hr.2 hc, I'⟩) (fun i hi e => br_f (by decide) ?_)
            have c : 12 * nI j + v2 = nI (12 * j + i) := by rw [e, show (12 : Int32) = nI 12 from rfl, pk_mul, nI_add]
            refine ⟨pk_in _ 3600 (by omega) c, ?_, I'⟩
            rw [c, cd_cl (by omega), hrw.2 i hi]
            exact hr.1 i hi e
          refine br_t rfl (br_f (by decide) (cd_xbegin (FP := cd_fp x_beginsPaths G) hnb hb (by omega) (fun c hc => ⟨hF c hc, by have := cd_fp3 hG hN hL hnb (Nat.le_of_lt hc); omega⟩) (fun c h1 h2 h3 => by have := cd_fp_st (G := G) h1 hbg; omega) ⟨hbg, by omega⟩ ⟨pk_in b 12 (by omega), ?_⟩))
          rw [cd_cl (by omega)]
          refine nm_r (e' := nI (cd_es x_pathsBefore l)) (by rw [hF b hb, pk_sub (by omega)]; exact congrArg nI (by omega)) ?_
          refine cd_xpe hnb hG hN (fun b hb => (hB.2.2.1 b hb).2.2.2.2) l b 0 hb hlb hvp (by omega) (fun i hi e => Yv _ ⟨fun i' hi' e' => ?_, fun hc => absurd (by rw [e, Nat.zero_add]) (hc i hi)⟩) (fun hno => Yv _ ⟨fun i hi e => absurd (by rw [Nat.zero_add]; exact e) (hno i hi), fun _ => rfl⟩)
          rw [e, nI_eq (by omega) (by omega)] at e'
          have : i = i' := by omega
          subst this
          rfl
        · refine br_f (by decide) (br_t rfl (Y0 (fun hm => ?_)))
          rcases ho with ho | ho
          · omega
          · exact absurd hm ho.1
end
section
/-- what a block's op does -/
def cd_op (p a x y : Int32) : Int32 × Int32 := if p = 1 then (x + a, y) else if p = 2 then (x, y + a) else if p = 3 then (y, y) else if p = 4 then (x, y - x) else if p = 5 then (a, y) else if p = 6 then (y, x) else if p = 7 then (x, y * a) else (x, y)
theorem cd_op0 {p a x y : Int32} (h1 : ¬ p = 1) (h2 : ¬ p = 2) (h3 : ¬ p = 3) (h4 : ¬ p = 4) (h5 : ¬ p = 5) (h6 : ¬ p = 6) (h7 : ¬ p = 7) : cd_op p a x y = (x, y) := by
  unfold cd_op
  rw [if_neg h1, if_neg h2, if_neg h3, if_neg h4, if_neg h5, if_neg h6, if_neg h7]
section
variable {x_blocks x_builtBlocks x_edges x_paths x_runX x_runY x_runDone : Int32} {x_ops x_operands x_kinds x_targets x_builtOps x_builtOperands x_builtKinds x_firstEdge x_edgeFrom x_edgeExit x_edgeTo x_edgeWeight x_inTree x_isBack x_beginsPaths x_firstPath x_pathsFrom x_pathsBefore x_counts x_dumped x_dumpKept x_looked x_joined x_met x_nextExit x_way : Nat → Int32} {y_made y_blocks y_edges y_paths y_many y_lastX y_lastY y_lastBlocks : Int32} {y_op y_number y_kind y_target y_from y_to y_exit y_weight y_firstEdge y_tree y_back y_row y_length y_gone y_done y_went y_cut y_kept y_mark y_way y_tried y_stack : Nat → Int32}
theorem cd_xop {post : SX → Prop} {p a : Int32} (hp : post (x_blocks, x_builtBlocks, x_edges, x_paths, ((cd_op p a x_runX x_runY).1), ((cd_op p a x_runX x_runY).2), x_runDone, x_ops, x_operands, x_kinds, x_targets, x_builtOps, x_builtOperands, x_builtKinds, x_firstEdge, x_edgeFrom, x_edgeExit, x_edgeTo, x_edgeWeight, x_inTree, x_isBack, x_beginsPaths, x_firstPath, x_pathsFrom, x_pathsBefore, x_counts, x_dumped, x_dumpKept, x_looked, x_joined, x_met, x_nextExit, x_way)) : wpX_doOp post (x_blocks, x_builtBlocks, x_edges, x_paths, x_runX, x_runY, x_runDone, x_ops, x_operands, x_kinds, x_targets, x_builtOps, x_builtOperands, x_builtKinds, x_firstEdge, x_edgeFrom, x_edgeExit, x_edgeTo, x_edgeWeight, x_inTree, x_isBack, x_beginsPaths, x_firstPath, x_pathsFrom, x_pathsBefore, x_counts, x_dumped, x_dumpKept, x_looked, x_joined, x_met, x_nextExit, x_way) p a := by
  unfold wpX_doOp
  refine br_c (fun h => ?_) (fun h => br_c (fun g => ?_) (fun g => br_c (fun h1 => ?_) (fun h1 => br_c (fun h2 => ?_) (fun h2 => br_c (fun h3 => ?_) (fun h3 => br_c (fun h4 => ?_) (fun h4 => br_c (fun h5 => ?_) (fun h5 => br_c (fun h6 => ?_) (fun h6 => br_c (fun h7 => ?_) (fun h7 => trivial)))))))))
  · rw [cd_op0 (fun e => by subst e; exact absurd h (by decide)) (fun e => by subst e; exact absurd h (by decide)) (fun e => by subst e; exact absurd h (by decide)) (fun e => by subst e; exact absurd h (by decide)) (fun e => by subst e; exact absurd h (by decide)) (fun e => by subst e; exact absurd h (by decide)) (fun e => by subst e; exact absurd h (by decide))] at hp
    exact hp
  · rw [cd_op0 (fun e => by subst e; exact absurd g (by decide)) (fun e => by subst e; exact absurd g (by decide)) (fun e => by subst e; exact absurd g (by decide)) (fun e => by subst e; exact absurd g (by decide)) (fun e => by subst e; exact absurd g (by decide)) (fun e => by subst e; exact absurd g (by decide)) (fun e => by subst e; exact absurd g (by decide))] at hp
    exact hp
  · subst h1; exact nm_e hp
  · subst h2; exact nm_e hp
  · subst h3; exact hp
  · subst h4; exact nm_e hp
  · subst h5; exact hp
  · subst h6; exact hp
  · subst h7; exact nm_e hp
theorem cd_yop {post : SY → Prop} {p a : Int32} (hp : post (y_made, y_blocks, y_edges, y_paths, y_many, ((cd_op p a y_lastX y_lastY).1), ((cd_op p a y_lastX y_lastY).2), y_lastBlocks, y_op, y_number, y_kind, y_target, y_from, y_to, y_exit, y_weight, y_firstEdge, y_tree, y_back, y_row, y_length, y_gone, y_done, y_went, y_cut, y_kept, y_mark, y_way, y_tried, y_stack)) : wpY_work post (y_made, y_blocks, y_edges, y_paths, y_many, y_lastX, y_lastY, y_lastBlocks, y_op, y_number, y_kind, y_target, y_from, y_to, y_exit, y_weight, y_firstEdge, y_tree, y_back, y_row, y_length, y_gone, y_done, y_went, y_cut, y_kept, y_mark, y_way, y_tried, y_stack) p a := by
  by_cases h1 : p = 1
  · subst h1
    exact br_t rfl (nm_e (br_f (by decide) (br_f (by decide) (br_f (by decide) (br_f (by decide) (br_f (by decide) (br_f (by decide) (br_f (by decide) hp))))))))
  by_cases h2 : p = 2
  · subst h2
    exact br_f (by decide) (br_t rfl (nm_e (br_f (by decide) (br_f (by decide) (br_f (by decide) (br_f (by decide) (br_f (by decide) (br_f (by decide) hp))))))))
  by_cases h3 : p = 3
  · subst h3
    exact br_f (by decide) (br_f (by decide) (br_t rfl (br_f (by decide) (br_f (by decide) (br_f (by decide) (br_f (by decide) hp))))))
  by_cases h4 : p = 4
  · subst h4
    exact br_f (by decide) (br_f (by decide) (br_f (by decide) (br_f (by decide) (br_t rfl (nm_e (br_f (by decide) (br_f (by decide) (br_f (by decide) hp))))))))
  by_cases h5 : p = 5
  · subst h5
    exact br_f (by decide) (br_f (by decide) (br_f (by decide) (br_f (by decide) (br_f (by decide) (br_t rfl (br_f (by decide) (br_f (by decide) hp)))))))
  by_cases h6 : p = 6
  · subst h6
    exact br_f (by decide) (br_f (by decide) (br_f (by decide) (br_t rfl (br_f (by decide) (br_f (by decide) (br_t rfl (br_f (by decide) hp)))))))
  by_cases h7 : p = 7
  · subst h7
    exact br_f (by decide) (br_f (by decide) (br_f (by decide) (br_f (by decide) (br_f (by decide) (br_f (by decide) (br_f (by decide) (br_t rfl (nm_e hp))))))))
  rw [cd_op0 h1 h2 h3 h4 h5 h6 h7] at hp
  exact br_f h1 (br_f h2 (br_f h3 (br_f h6 (br_f h4 (br_f h5 (br_f h6 (br_f h7 hp)))))))
theorem cd_xdo {post : SX → Prop} {b : Nat} (hb : b < 12) (hp : post (x_blocks, x_builtBlocks, x_edges, x_paths, ((cd_op (x_builtOps b) (x_builtOperands b) x_runX x_runY).1), ((cd_op (x_builtOps b) (x_builtOperands b) x_runX x_runY).2), (x_runDone + 1), x_ops, x_operands, x_kinds, x_targets, x_builtOps, x_builtOperands, x_builtKinds, x_firstEdge, x_edgeFrom, x_edgeExit, x_edgeTo, x_edgeWeight, x_inTree, x_isBack, x_beginsPaths, x_firstPath, x_pathsFrom, x_pathsBefore, (upd x_counts (37 + b) (x_counts (37 + b) + 1)), x_dumped, x_dumpKept, x_looked, x_joined, x_met, x_nextExit, x_way)) : wpX_doBlock post (x_blocks, x_builtBlocks, x_edges, x_paths, x_runX, x_runY, x_runDone, x_ops, x_operands, x_kinds, x_targets, x_builtOps, x_builtOperands, x_builtKinds, x_firstEdge, x_edgeFrom, x_edgeExit, x_edgeTo, x_edgeWeight, x_inTree, x_isBack, x_beginsPaths, x_firstPath, x_pathsFrom, x_pathsBefore, x_counts, x_dumped, x_dumpKept, x_looked, x_joined, x_met, x_nextExit, x_way) (nI b) := by
  have c : (37 : Int32) + nI b = nI (37 + b) := nI_add 37 b
  unfold wpX_doBlock
  dsimp only
  rw [cd_cl (by omega)]
  refine ⟨pk_in b 12 hb, pk_in b 12 hb, cd_xop ⟨pk_in (37 + b) 350 (by omega) c, pk_in (37 + b) 350 (by omega) c, ?_⟩⟩
  rw [c, cd_cl (by omega)]
  exact nm_e (nm_e hp)
end
/-- the exit that is chosen -/
def cd_cx (k x y : Int32) : Nat := if k = 2 then (if y ≤ x then 1 else 0) else if k = 3 then (if (x &&& 1) = 1 then 0 else 1) else if k = 4 then (if x = 0 then 0 else 1) else if k = 5 then (x.toInt % 3).toNat else 0
theorem cd_tm (x d : Int) : (0 ≤ x → x.tmod d = x % d) ∧ (x < 0 → x.tmod d = -((-x) % d)) := ⟨Int.tmod_eq_emod_of_nonneg, fun q => by rw [← Int.tmod_eq_emod_of_nonneg (by omega), Int.neg_tmod, Int.neg_neg]⟩
theorem cd_rem3 (x : Int32) : (0 ≤ x - x / 3 * 3 → x - x / 3 * 3 = nI (x.toInt % 3).toNat) ∧ (¬ 0 ≤ x - x / 3 * 3 → x - x / 3 * 3 + 3 = nI (x.toInt % 3).toNat) ∧ (x - x / 3 * 3 + 3) - (x - x / 3 * 3 + 3) / 3 * 3 = nI (x.toInt % 3).toNat := by
  have h := rem_toInt x 3
  have h2 := rem_toInt (x - x / 3 * 3 + 3) 3
  generalize x - x / 3 * 3 = r at *
  have e3 : (3 : Int32).toInt = 3 := by decide
  have e0 : (0 : Int32).toInt = 0 := by decide
  rw [e3] at h h2
  have t := cd_tm x.toInt 3
  have hr : -2 ≤ r.toInt ∧ r.toInt ≤ 2 ∧ (0 ≤ r.toInt → r.toInt = x.toInt % 3) ∧ (r.toInt < 0 → r.toInt + 3 = x.toInt % 3) := by
    rw [h]
    by_cases g : 0 ≤ x.toInt
    · rw [t.1 g]; omega
    · rw [t.2 (by omega)]; omega
  have ha : (r + 3).toInt = r.toInt + 3 := by
    rw [Int32.toInt_add, e3]
    exact Int.bmod_eq_of_le (by omega) (by omega)
  have hn : (nI (x.toInt % 3).toNat).toInt = x.toInt % 3 := by
    rw [nI_toInt (by omega)]
    omega
  refine ⟨fun g => ?_, fun g => ?_, ?_⟩
  · rw [Int32.le_iff_toInt_le, e0] at g
    apply Int32.toInt_inj.mp
    rw [hn]; exact hr.2.2.1 g
  · rw [Int32.le_iff_toInt_le, e0] at g
    apply Int32.toInt_inj.mp
    rw [hn, ha]; exact hr.2.2.2 (by omega)
  · apply Int32.toInt_inj.mp
    rw [h2, hn, ha]
    rw [(cd_tm (r.toInt + 3) 3).1 (by omega)]
    omega
theorem cd_odd (x : Int32) : (x &&& 1) = 1 ↔ ¬ x - x / 2 * 2 = 0 := by
  have h := rem_toInt x 2
  have e2 : (2 : Int32).toInt = 2 := by decide
  have e0 : (0 : Int32).toInt = 0 := by decide
  have t := cd_tm x.toInt 2
  rw [e2] at h
  have hx : x.toInt = x.toBitVec.toInt := rfl
  have hc := BitVec.toInt_eq_toNat_cond x.toBitVec
  have hl := x.toBitVec.isLt
  rw [pk_and x 1 (by decide), ← Int32.toInt_inj (x := x - x / 2 * 2), h, e0, show (1 : Int32) = nI 1 from rfl, nI_eq (by omega) (by omega)]
  have hz : x.toInt.tmod 2 = 0 ↔ x.toInt % 2 = 0 := by
    by_cases g : 0 ≤ x.toInt
    · rw [t.1 g]
    · rw [t.2 (by omega)]; omega
  rw [hz, hx, hc]
  generalize x.toBitVec.toNat = q at *
  split <;> omega
theorem cd_cx_lt {k x y : Int32} (hk : ∃ j : Nat, j < 6 ∧ k = nI j) : cd_cx k x y < cd_ec k := by
  obtain ⟨j, hj, rfl⟩ := hk
  unfold cd_cx
  have r := cd_ec_r (nI j)
  by_cases h2 : nI j = 2
  · rw [if_pos h2, h2]
    have : cd_ec 2 = 2 := by decide
    split <;> omega
  rw [if_neg h2]
  by_cases h3 : nI j = 3
  · rw [if_pos h3, h3]
    have : cd_ec 3 = 2 := by decide
    split <;> omega
  rw [if_neg h3]
  by_cases h4 : nI j = 4
  · rw [if_pos h4, h4]
    have : cd_ec 4 = 2 := by decide
    split <;> omega
  rw [if_neg h4]
  by_cases h5 : nI j = 5
  · rw [if_pos h5, h5]
    have : cd_ec 5 = 3 := by decide
    omega
  rw [if_neg h5]
  omega
section
variable {x_blocks x_builtBlocks x_edges x_paths x_runX x_runY x_runDone : Int32} {x_ops x_operands x_kinds x_targets x_builtOps x_builtOperands x_builtKinds x_firstEdge x_edgeFrom x_edgeExit x_edgeTo x_edgeWeight x_inTree x_isBack x_beginsPaths x_firstPath x_pathsFrom x_pathsBefore x_counts x_dumped x_dumpKept x_looked x_joined x_met x_nextExit x_way : Nat → Int32} {y_made y_blocks y_edges y_paths y_many y_lastX y_lastY y_lastBlocks : Int32} {y_op y_number y_kind y_target y_from y_to y_exit y_weight y_firstEdge y_tree y_back y_row y_length y_gone y_done y_went y_cut y_kept y_mark y_way y_tried y_stack : Nat → Int32}
theorem cd_xcx {post : Int32 → Prop} {k : Int32} (hp : post (nI (cd_cx k x_runX x_runY))) : wpX_chosenExit post (x_blocks, x_builtBlocks, x_edges, x_paths, x_runX, x_runY, x_runDone, x_ops, x_operands, x_kinds, x_targets, x_builtOps, x_builtOperands, x_builtKinds, x_firstEdge, x_edgeFrom, x_edgeExit, x_edgeTo, x_edgeWeight, x_inTree, x_isBack, x_beginsPaths, x_firstPath, x_pathsFrom, x_pathsBefore, x_counts, x_dumped, x_dumpKept, x_looked, x_joined, x_met, x_nextExit, x_way) k := by
  unfold wpX_chosenExit
  unfold cd_cx at hp
  have C : ∀ {z : Int32}, ¬ z = 2 → ¬ z = 3 → ¬ z = 4 → ¬ z = 5 → k = z → post (nI (if k = 2 then (if x_runY ≤ x_runX then 1 else 0) else if k = 3 then (if (x_runX &&& 1) = 1 then 0 else 1) else if k = 4 then (if x_runX = 0 then 0 else 1) else if k = 5 then (x_runX.toInt % 3).toNat else 0)) → post 0 := by
    intro z g2 g3 g4 g5 e h
    subst e
    rw [if_neg g2, if_neg g3, if_neg g4, if_neg g5] at h
    exact h
  refine br_c (fun h => ?_) (fun h => br_c (fun g => ?_) (fun g => br_c (fun h2 => ?_) (fun h2 => br_c (fun h3 => ?_) (fun h3 => br_c (fun h4 => ?_) (fun h4 => br_c (fun h5 => ?_) (fun h5 => trivial))))))
  · exact C (fun e => by subst e; exact absurd h (by decide)) (fun e => by subst e; exact absurd h (by decide)) (fun e => by subst e; exact absurd h (by decide)) (fun e => by subst e; exact absurd h (by decide)) rfl hp
  · exact C (fun e => by subst e; exact absurd g (by decide)) (fun e => by subst e; exact absurd g (by decide)) (fun e => by subst e; exact absurd g (by decide)) (fun e => by subst e; exact absurd g (by decide)) rfl hp
  · rw [if_pos h2] at hp
    refine br_c (fun z => ?_) (fun z => ?_)
    · rw [if_pos z] at hp; exact hp
    · rw [if_neg z] at hp; exact hp
  · rw [if_neg h2, if_pos h3] at hp
    refine br_c (fun z => ?_) (fun z => ?_)
    · rw [if_pos z] at hp; exact hp
    · rw [if_neg z] at hp; exact hp
  · rw [if_neg h2, if_neg h3, if_pos h4] at hp
    refine br_c (fun z => ?_) (fun z => ?_)
    · rw [if_pos z] at hp; exact hp
    · rw [if_neg z] at hp; exact hp
  · rw [if_neg h2, if_neg h3, if_neg h4, if_pos h5] at hp
    obtain ⟨r1, r2, r3⟩ := cd_rem3 x_runX
    refine ⟨by decide, nm_e (br_c (fun z => ?_) (fun z => ?_))⟩
    · rw [r1 z]; exact hp
    · rw [r2 z]; exact hp
theorem cd_ycx {post : Int32 → Prop} {k x y : Int32} (hp : post (nI (cd_cx k x y))) : wpY_choose post k x y := by
  unfold wpY_choose
  unfold cd_cx at hp
  have C : ∀ {z : Int32}, ¬ z = 2 → ¬ z = 3 → ¬ z = 4 → ¬ z = 5 → k = z → post (nI (if k = 2 then (if y ≤ x then 1 else 0) else if k = 3 then (if (x &&& 1) = 1 then 0 else 1) else if k = 4 then (if x = 0 then 0 else 1) else if k = 5 then (x.toInt % 3).toNat else 0)) → post 0 := by
    intro z g2 g3 g4 g5 e h
    subst e
    rw [if_neg g2, if_neg g3, if_neg g4, if_neg g5] at h
    exact h
  refine br_c (fun h => ?_) (fun h => br_c (fun g => ?_) (fun g => br_c (fun h2 => ?_) (fun h2 => br_c (fun h3 => ?_) (fun h3 => br_c (fun h4 => ?_) (fun h4 => br_c (fun h5 => ?_) (fun h5 => trivial))))))
  · exact C (fun e => by subst e; exact absurd h (by decide)) (fun e => by subst e; exact absurd h (by decide)) (fun e => by subst e; exact absurd h (by decide)) (fun e => by subst e; exact absurd h (by decide)) rfl hp
  · exact C (fun e => by subst e; exact absurd g (by decide)) (fun e => by subst e; exact absurd g (by decide)) (fun e => by subst e; exact absurd g (by decide)) (fun e => by subst e; exact absurd g (by decide)) rfl hp
  · rw [if_pos h2] at hp
    refine br_c (fun z => ?_) (fun z => ?_)
    · rw [if_pos z] at hp; exact hp
    · rw [if_neg z] at hp; exact hp
  · rw [if_neg h2, if_pos h3] at hp
    refine ⟨by decide, br_c (fun z => ?_) (fun z => ?_)⟩
    · rw [if_neg (fun w => (cd_odd x).mp w z)] at hp; exact hp
    · rw [if_pos ((cd_odd x).mpr z)] at hp; exact hp
  · rw [if_neg h2, if_neg h3, if_pos h4] at hp
    refine br_c (fun z => ?_) (fun z => ?_)
    · rw [if_pos z] at hp; exact hp
    · rw [if_neg z] at hp; exact hp
  · rw [if_neg h2, if_neg h3, if_neg h4, if_pos h5] at hp
    obtain ⟨r1, r2, r3⟩ := cd_rem3 x
    refine ⟨by decide, by decide, ?_⟩
    rw [r3]; exact hp
/-- the reference counts the rows that hold the way -/
theorem cd_ycp29 {post : SY → Prop} {J : Int32 → (Nat → Int32) → (Nat → Int32) → (Nat → Int32) → (Nat → Int32) → (Nat → Int32) → (Nat → Int32) → (Nat → Int32) → (Nat → Int32) → (Nat → Int32) → (Nat → Int32) → (Nat → Int32) → (Nat → Int32) → (Nat → Int32) → (Nat → Int32) → (Nat → Int32) → (Nat → Int32) → (Nat → Int32) → (Nat → Int32) → (Nat → Int32) → (Nat → Int32) → (Nat → Int32) → (Nat → Int32) → Prop} {p : Nat} {l : List Nat} (hp : p < 300) (hl : l.length ≤ 12) (hw : ∀ i (h : i < l.length), y_way i = nI l[i])
    (h1 : cd_rw y_row y_length p l → J (nI (p + 1)) y_op y_number y_kind y_target y_from y_to y_exit y_weight y_firstEdge y_tree y_back y_row y_length y_gone y_done (upd y_went p (y_went p + 1)) y_cut y_kept y_mark y_way y_tried y_stack) (h0 : ¬ cd_rw y_row y_length p l → J (nI (p + 1)) y_op y_number y_kind y_target y_from y_to y_exit y_weight y_firstEdge y_tree y_back y_row y_length y_gone y_done y_went y_cut y_kept y_mark y_way y_tried y_stack) :
    ∀ d i, i + d = l.length → (y_length p = nI l.length → (∀ j (h : j < l.length), j < i → y_row (12 * p + j) = nI l[j]) → wY_countPath_29 post J (nI l.length) (nI p) y_made y_blocks y_edges y_paths y_many y_lastX y_lastY y_lastBlocks y_op y_number y_kind y_target y_from y_to y_exit y_weight y_firstEdge y_tree y_back y_row y_length y_gone y_done y_went y_cut y_kept y_mark y_way y_tried y_stack (d + 1) 1 (nI i)) ∧ (¬ cd_rw y_row y_length p l → wY_countPath_29 post J (nI l.length) (nI p) y_made y_blocks y_edges y_paths y_many y_lastX y_lastY y_lastBlocks y_op y_number y_kind y_target y_from y_to y_exit y_weight y_firstEdge y_tree y_back y_row y_length y_gone y_done y_went y_cut y_kept y_mark y_way y_tried y_stack (d + 1) 0 (nI i)) := by
  have cp := cd_cl (n := p) (by omega)
  have Z0 : ¬ cd_rw y_row y_length p l → wY_countPath_73 post J (nI l.length) (nI p) 0 y_made y_blocks y_edges y_paths y_many y_lastX y_lastY y_lastBlocks y_op y_number y_kind y_target y_from y_to y_exit y_weight y_firstEdge y_tree y_back y_row y_length y_gone y_done y_went y_cut y_kept y_mark y_way y_tried y_stack := fun h => br_t rfl (nm_r (nI_1 p) (h0 h))
  have Z1 : cd_rw y_row y_length p l → wY_countPath_73 post J (nI l.length) (nI p) 1 y_made y_blocks y_edges y_paths y_many y_lastX y_lastY y_lastBlocks y_op y_number y_kind y_target y_from y_to y_exit y_weight y_firstEdge y_tree y_back y_row y_length y_gone y_done y_went y_cut y_kept y_mark y_way y_tried y_stack := fun h => br_f (by decide) ⟨pk_in p 900 (by omega), pk_in p 900 (by omega), nm_r (e' := upd y_went p (y_went p + 1)) (by rw [cp]) (nm_r (nI_1 p) (h1 h))⟩
  intro d
  induction d with
  | zero =>
    intro i hi
    refine ⟨fun hlen hall => pk_le l.length i (fun _ => Z1 ⟨hlen, fun j h => hall j h (by omega)⟩) (fun h => absurd h (by omega)), fun h => pk_le l.length i (fun _ => Z0 h) (fun h => absurd h (by omega))⟩
  | succ d ih =>
    intro i hi
    obtain ⟨i1, i0⟩ := ih (i + 1) (by omega)
    refine ⟨fun hlen hall => pk_le l.length i (fun h => absurd h (by omega)) (fun _ => br_f (by decide) ?_), fun h => pk_le l.length i (fun h => absurd h (by omega)) (fun _ => br_t rfl (Z0 h))⟩
    have c : 12 * nI p + nI i = nI (12 * p + i) := by rw [show (12 : Int32) = nI 12 from rfl, pk_mul, nI_add]
    have hil : i < l.length := by omega
    refine ⟨pk_in (12 * p + i) 3600 (by omega) c, pk_in i 13 (by omega), ?_⟩
    rw [c, cd_cl (by omega), cd_cl (by omega), hw i hil]
    refine br_c (fun z => nm_r (nI_1 i) (i1 hlen (fun j h hj => ?_))) (fun z => nm_r (nI_1 i) (i0 (fun hr => z (hr.2 i hil))))
    by_cases e : j = i
    · subst e; exact z
    · exact hall j h (by omega)
theorem cd_ycp {post : SY → Prop} {ny : Nat} {l : List Nat} {q : Int32} (hq : q = nI l.length) (hny : ny ≤ 300) (hl : l.length ≤ 12) (hw : ∀ i (h : i < l.length), y_way i = nI l[i])
    (hp : ∀ w, (∀ p, p < ny → (cd_rw y_row y_length p l → w p = y_went p + 1) ∧ (¬ cd_rw y_row y_length p l → w p = y_went p)) → (∀ p, ny ≤ p → w p = y_went p) → post (y_made, y_blocks, y_edges, (nI ny), y_many, y_lastX, y_lastY, y_lastBlocks, y_op, y_number, y_kind, y_target, y_from, y_to, y_exit, y_weight, y_firstEdge, y_tree, y_back, y_row, y_length, y_gone, y_done, w, y_cut, y_kept, y_mark, y_way, y_tried, y_stack)) : wpY_countPath post (y_made, y_blocks, y_edges, (nI ny), y_many, y_lastX, y_lastY, y_lastBlocks, y_op, y_number, y_kind, y_target, y_from, y_to, y_exit, y_weight, y_firstEdge, y_tree, y_back, y_row, y_length, y_gone, y_done, y_went, y_cut, y_kept, y_mark, y_way, y_tried, y_stack) q := by
  subst hq
  have H : ∀ d p w, p + d = ny → (∀ j, j < p → (cd_rw y_row y_length j l → w j = y_went j + 1) ∧ (¬ cd_rw y_row y_length j l → w j = y_went j)) → (∀ j, p ≤ j → w j = y_went j) → wY_countPath_2 post (nI l.length) y_made y_blocks y_edges (nI ny) y_many y_lastX y_lastY y_lastBlocks (d + 1) (nI p) y_op y_number y_kind y_target y_from y_to y_exit y_weight y_firstEdge y_tree y_back y_row y_length y_gone y_done w y_cut y_kept y_mark y_way y_tried y_stack := by
    intro d
    induction d with
    | zero =>
      intro p w hd hlo hhi
      have : p = ny := by omega
      subst this
      exact pk_le p p (fun _ => hp w hlo hhi) (fun h => absurd h (by omega))
    | succ d ih =>
      intro p w hd hlo hhi
      refine pk_le ny p (fun h => absurd h (by omega)) (fun _ => ⟨pk_in p 300 (by omega), ?_⟩)
      rw [cd_cl (by omega)]
      have J1 : cd_rw y_row y_length p l → wY_countPath_2 post (nI l.length) y_made y_blocks y_edges (nI ny) y_many y_lastX y_lastY y_lastBlocks (d + 1) (nI (p + 1)) y_op y_number y_kind y_target y_from y_to y_exit y_weight y_firstEdge y_tree y_back y_row y_length y_gone y_done (upd w p (w p + 1)) y_cut y_kept y_mark y_way y_tried y_stack := by
        intro hr
        refine ih (p + 1) _ (by omega) (fun j hj => ?_) (fun j hj => ?_)
        · by_cases e : j = p
          · subst e
            rw [pk_us, hhi j (Nat.le_refl _)]
            exact ⟨fun _ => rfl, fun z => absurd hr z⟩
          · rw [pk_un e]; exact hlo j (by omega)
        · rw [pk_un (by omega)]; exact hhi j (by omega)
      have J0 : ¬ cd_rw y_row y_length p l → wY_countPath_2 post (nI l.length) y_made y_blocks y_edges (nI ny) y_many y_lastX y_lastY y_lastBlocks (d + 1) (nI (p + 1)) y_op y_number y_kind y_target y_from y_to y_exit y_weight y_firstEdge y_tree y_back y_row y_length y_gone y_done w y_cut y_kept y_mark y_way y_tried y_stack := by
        intro hr
        refine ih (p + 1) _ (by omega) (fun j hj => ?_) (fun j hj => hhi j (by omega))
        by_cases e : j = p
        · subst e
          exact ⟨fun z => absurd z hr, fun _ => hhi j (Nat.le_refl _)⟩
        · exact hlo j (by omega)
      have K := cd_ycp29 (post := post) (J := wY_countPath_2 post (nI l.length) y_made y_blocks y_edges (nI ny) y_many y_lastX y_lastY y_lastBlocks (d + 1)) (y_made := y_made) (y_blocks := y_blocks) (y_edges := y_edges) (y_paths := nI ny) (y_many := y_many) (y_lastX := y_lastX) (y_lastY := y_lastY) (y_lastBlocks := y_lastBlocks) (p := p) (l := l) (y_went := w) (by omega) hl hw J1 J0 l.length 0 (by omega)
      refine br_c (fun z => ⟨_, K.1 z (fun j h hj => absurd hj (by omega))⟩) (fun z => ⟨_, K.2 (fun hr => z hr.1)⟩)
  exact Exists.intro (ny + 1) (H ny 0 y_went (by omega) (fun j hj => absurd hj (by omega)) (fun j _ => rfl))
end
end
section
theorem cd_vp_b {bk to ib : Nat → Int32} {l : List Nat} {b b' : Nat} (h : cd_vp bk to ib b l) (h' : cd_vp bk to ib b' l) : b = b' := by
  cases l with
  | nil => exact absurd h (by unfold cd_vp; exact id)
  | cons e l =>
    unfold cd_vp at h h'
    obtain ⟨⟨k, hk, rfl⟩, _⟩ := h
    obtain ⟨⟨k', hk', e'⟩, _⟩ := h'
    exact (cd_fs_inj hk hk' e').1
theorem cd_match {nb np : Nat} {bk to ib pf pb bg row len : Nat → Int32} {L : Nat → Prop} {rk G : Nat → Nat} (hnb : nb ≤ 12) (hG : cd_PG nb bk to ib L rk) (hN : cd_PN nb bk to ib pf pb L rk G) (hL : ∀ b, b < nb → bg b ≠ 0 → L b) (hR : cd_PR nb np bk to ib pb bg row len G) {b : Nat} {l : List Nat} (hb : b < nb) (hbg : bg b ≠ 0) (hv : cd_vp bk to ib b l) {p : Nat} (hp : p < np) : cd_rw row len p l ↔ p = cd_fp bg G b + cd_es pb l := by
  obtain ⟨b', l', hb', hbg', hv', hpe, hrw⟩ := hR p hp
  have len1 := cd_vp_len hG hnb l b hb (hL b hb hbg) hv
  have len2 := cd_vp_len hG hnb l' b' hb' (hL b' hb' hbg') hv'
  have r1 := (hG.2 b hb (hL b hb hbg)).1
  have r2 := (hG.2 b' hb' (hL b' hb' hbg')).1
  constructor
  · intro h
    have e := cd_rw_u h hrw (by omega) (by omega) (fun x hx => by have := cd_vp_37 hG hnb l b hb (hL b hb hbg) hv x hx; omega) (fun x hx => by have := cd_vp_37 hG hnb l' b' hb' (hL b' hb' hbg') hv' x hx; omega)
    subst e
    have := cd_vp_b hv hv'
    subst this
    exact hpe.symm
  · intro h
    obtain ⟨_, e⟩ := cd_num_inj hG hN hnb hL hb hb' hbg hbg' hv hv' (by omega)
    subst e
    exact hrw
theorem cd_C1 {mn : Int32} {cn gone done went cut : Nat → Int32} {b : Nat} (hb : b < 12) (h : cd_C mn cn gone done went cut) : cd_C mn (upd cn (37 + b) (cn (37 + b) + 1)) gone (upd done b (done b + 1)) went cut := by
  obtain ⟨h1, h2, h3, h4⟩ := h
  refine ⟨fun e he => ?_, fun c hc => ?_, fun hm p hp => ?_, ?_⟩
  · rw [pk_un (by omega)]; exact h1 e he
  · by_cases e : c = b
    · subst e; rw [pk_us, pk_us, h2 c hc]
    · rw [pk_un e, pk_un (by omega)]; exact h2 c hc
  · rw [pk_un (by omega)]; exact h3 hm p hp
  · rw [pk_un (by omega)]; exact h4
theorem cd_C2 {mn : Int32} {cn gone done went cut : Nat → Int32} {b : Nat} (hb : b < 37) (h : cd_C mn cn gone done went cut) : cd_C mn (upd cn b (cn b + 1)) (upd gone b (gone b + 1)) done went cut := by
  obtain ⟨h1, h2, h3, h4⟩ := h
  refine ⟨fun e he => ?_, fun c hc => ?_, fun hm p hp => ?_, ?_⟩
  · by_cases g : e = b
    · subst g; rw [pk_us, pk_us, h1 e he]
    · rw [pk_un g, pk_un g]; exact h1 e he
  · rw [pk_un (by omega)]; exact h2 c hc
  · rw [pk_un (by omega)]; exact h3 hm p hp
  · rw [pk_un (by omega)]; exact h4
theorem cd_C3 {mn : Int32} {cn gone done went cut : Nat → Int32} (h : cd_C mn cn gone done went cut) : cd_C mn (upd cn 349 (cn 349 + 1)) gone done went (upd cut 0 (cut 0 + 1)) := by
  obtain ⟨h1, h2, h3, h4⟩ := h
  refine ⟨fun e he => ?_, fun c hc => ?_, fun hm p hp => ?_, ?_⟩
  · rw [pk_un (by omega)]; exact h1 e he
  · rw [pk_un (by omega)]; exact h2 c hc
  · rw [pk_un (by omega)]; exact h3 hm p hp
  · rw [pk_us, pk_us, h4]
theorem cd_C4 {mn : Int32} {cn gone done went cut w : Nat → Int32} {q : Nat} (hq : q < 300) (h : cd_C mn cn gone done went cut) (hw : ∀ p, p < 300 → (p = q → w p = went p + 1) ∧ (¬ p = q → w p = went p)) : cd_C mn (upd cn (49 + q) (cn (49 + q) + 1)) gone done w cut := by
  obtain ⟨h1, h2, h3, h4⟩ := h
  refine ⟨fun e he => ?_, fun c hc => ?_, fun hm p hp => ?_, ?_⟩
  · rw [pk_un (by omega)]; exact h1 e he
  · rw [pk_un (by omega)]; exact h2 c hc
  · by_cases e : p = q
    · subst e; rw [pk_us, (hw p hp).1 rfl, h3 hm p hp]
    · rw [pk_un (by omega), (hw p hp).2 e]; exact h3 hm p hp
  · rw [pk_un (by omega)]; exact h4
theorem cd_C5 {mn : Int32} {cn gone done went cut w : Nat → Int32} (hm : ¬ mn = 0) (h : cd_C mn cn gone done went cut) : cd_C mn cn gone done w cut :=
  ⟨h.1, h.2.1, fun z => absurd z hm, h.2.2.2⟩
theorem cd_K1 {mn : Int32} {ne : Nat} {dm dk gone done went cut gone' done' went' cut' : Nat → Int32} (h : cd_K mn ne dm dk gone done went cut) (h1 : ∀ e, 37 ≤ e → gone' e = gone e) (h2 : ∀ e, 12 ≤ e → done' e = done e) (h3 : ∀ e, 300 ≤ e → went' e = went e) (h4 : ∀ e, 1 ≤ e → cut' e = cut e) : cd_K mn ne dm dk gone' done' went' cut' := by
  intro c hc hk
  obtain ⟨k0, k1, k2, k3, k4⟩ := h c hc hk
  refine ⟨k0, fun e he => ?_, fun b hb => ?_, fun hm p hp => ?_, ?_⟩
  · rw [h1 _ (by omega)]; exact k1 e he
  · rw [h2 _ (by omega)]; exact k2 b hb
  · rw [h3 _ (by omega)]; exact k3 hm p hp
  · rw [h4 _ (by omega)]; exact k4
section
variable {x_blocks x_builtBlocks x_edges x_paths x_runX x_runY x_runDone : Int32} {x_ops x_operands x_kinds x_targets x_builtOps x_builtOperands x_builtKinds x_firstEdge x_edgeFrom x_edgeExit x_edgeTo x_edgeWeight x_inTree x_isBack x_beginsPaths x_firstPath x_pathsFrom x_pathsBefore x_counts x_dumped x_dumpKept x_looked x_joined x_met x_nextExit x_way : Nat → Int32} {y_made y_blocks y_edges y_paths y_many y_lastX y_lastY y_lastBlocks : Int32} {y_op y_number y_kind y_target y_from y_to y_exit y_weight y_firstEdge y_tree y_back y_row y_length y_gone y_done y_went y_cut y_kept y_mark y_way y_tried y_stack : Nat → Int32}
theorem cd_ycpE {ny : Nat} {l : List Nat} {q : Int32} (hq : q = nI l.length) (hny : ny ≤ 300) (hl : l.length ≤ 12) (hw : ∀ i (h : i < l.length), y_way i = nI l[i]) :
    ∃ w, (∀ p, p < ny → (cd_rw y_row y_length p l → w p = y_went p + 1) ∧ (¬ cd_rw y_row y_length p l → w p = y_went p)) ∧ (∀ p, ny ≤ p → w p = y_went p) ∧ ∀ post : SY → Prop, post (y_made, y_blocks, y_edges, (nI ny), y_many, y_lastX, y_lastY, y_lastBlocks, y_op, y_number, y_kind, y_target, y_from, y_to, y_exit, y_weight, y_firstEdge, y_tree, y_back, y_row, y_length, y_gone, y_done, w, y_cut, y_kept, y_mark, y_way, y_tried, y_stack) → wpY_countPath post (y_made, y_blocks, y_edges, (nI ny), y_many, y_lastX, y_lastY, y_lastBlocks, y_op, y_number, y_kind, y_target, y_from, y_to, y_exit, y_weight, y_firstEdge, y_tree, y_back, y_row, y_length, y_gone, y_done, y_went, y_cut, y_kept, y_mark, y_way, y_tried, y_stack) q := by
  have D : ∀ p, Decidable (p < ny ∧ cd_rw y_row y_length p l) := fun p => Classical.propDecidable _
  refine ⟨fun p => @ite _ (p < ny ∧ cd_rw y_row y_length p l) (D p) (y_went p + 1) (y_went p), fun p hp => ⟨fun h => if_pos ⟨hp, h⟩, fun h => if_neg (fun z => h z.2)⟩, fun p hp => if_neg (fun z => absurd z.1 (by omega)), fun post hpost => ?_⟩
  refine cd_ycp hq hny hl hw (fun w h1 h2 => ?_)
  have e : w = (fun p => @ite _ (p < ny ∧ cd_rw y_row y_length p l) (D p) (y_went p + 1) (y_went p)) := by
    funext p
    by_cases g : p < ny ∧ cd_rw y_row y_length p l
    · rw [if_pos g]; exact (h1 p g.1).1 g.2
    · rw [if_neg g]
      by_cases g2 : p < ny
      · exact (h1 p g2).2 (fun z => g ⟨g2, z⟩)
      · exact h2 p (by omega)
  rw [e]
  exact hpost
variable {n nb ne np ny : Nat} {L : Nat → Prop} {rk G : Nat → Nat}
theorem cd_yrun1 (hnb : nb ≤ 12) (hB : cd_B nb ne x_builtOps x_builtOperands x_builtKinds x_firstEdge x_edgeFrom x_edgeTo y_op y_number y_kind) (hG : cd_PG nb x_builtKinds x_edgeTo x_isBack L rk) (hN : cd_PN nb x_builtKinds x_edgeTo x_isBack x_pathsFrom x_pathsBefore L rk G) (hPB : cd_PB nb ne x_edgeTo x_isBack x_beginsPaths) (hL : ∀ b, b < nb → x_beginsPaths b ≠ 0 → L b) (hF : ∀ b, b < nb → x_firstPath b = nI (cd_fp x_beginsPaths G b)) (hnp : np = cd_fp x_beginsPaths G nb) (ho : (y_many = 0 ∧ ny = np ∧ np ≤ 300) ∨ (¬ y_many = 0 ∧ ny = 300 ∧ 300 < np)) (hR : cd_PR nb ny x_builtKinds x_edgeTo x_isBack x_pathsBefore x_beginsPaths y_row y_length G) {b s : Nat} {l : List Nat} {postY : Int32 → SY → Prop} (hb : b < nb) (hs : s < 99) (hlen : l.length < 12) (hway : ∀ i (h : i < l.length), y_way i = nI l[i]) {e : Nat} (he : e = cd_fs x_builtKinds b + cd_cx (x_builtKinds b) (cd_op (x_builtOps b) (x_builtOperands b) y_lastX y_lastY).1 (cd_op (x_builtOps b) (x_builtOperands b) y_lastX y_lastY).2)
    (h0 : ¬ cd_en x_isBack x_edgeTo e → ∃ m, wY_run_58 postY m (x_edgeTo e) (nI (l.length + 1)) (nI (s + 1)) (nI n) (nI nb) (nI ne) (nI ny) y_many ((cd_op (x_builtOps b) (x_builtOperands b) y_lastX y_lastY).1) ((cd_op (x_builtOps b) (x_builtOperands b) y_lastX y_lastY).2) (nI (s + 1)) y_op y_number y_kind y_target x_edgeFrom x_edgeTo x_edgeExit x_edgeWeight x_firstEdge x_inTree x_isBack y_row y_length (upd y_gone e (y_gone e + 1)) (upd y_done b (y_done b + 1)) y_went y_cut x_dumpKept y_mark (upd y_way l.length (nI e)) y_tried y_stack)
    (h1 : cd_en x_isBack x_edgeTo e → ∀ w, (∀ p, p < ny → (cd_rw y_row y_length p (l ++ [e]) → w p = y_went p + 1) ∧ (¬ cd_rw y_row y_length p (l ++ [e]) → w p = y_went p)) → (∀ p, ny ≤ p → w p = y_went p) → ∃ m, wY_run_58 postY m (x_edgeTo e) 0 (nI (s + 1)) (nI n) (nI nb) (nI ne) (nI ny) y_many ((cd_op (x_builtOps b) (x_builtOperands b) y_lastX y_lastY).1) ((cd_op (x_builtOps b) (x_builtOperands b) y_lastX y_lastY).2) (nI (s + 1)) y_op y_number y_kind y_target x_edgeFrom x_edgeTo x_edgeExit x_edgeWeight x_firstEdge x_inTree x_isBack y_row y_length (upd y_gone e (y_gone e + 1)) (upd y_done b (y_done b + 1)) w y_cut x_dumpKept y_mark (upd y_way l.length (nI e)) y_tried y_stack) :
    ∃ m, wY_run_58 postY m (nI b) (nI l.length) (nI s) (nI n) (nI nb) (nI ne) (nI ny) y_many y_lastX y_lastY y_lastBlocks y_op y_number y_kind y_target x_edgeFrom x_edgeTo x_edgeExit x_edgeWeight x_firstEdge x_inTree x_isBack y_row y_length y_gone y_done y_went y_cut x_dumpKept y_mark y_way y_tried y_stack := by
  obtain ⟨b1, b2, b3, b4⟩ := hB
  obtain ⟨c1, c2, c3, c4, c5⟩ := b3 b hb
  have hny : ny ≤ 300 := by omega
  have hk := cd_cx_lt (k := x_builtKinds b) (x := (cd_op (x_builtOps b) (x_builtOperands b) y_lastX y_lastY).1) (y := (cd_op (x_builtOps b) (x_builtOperands b) y_lastX y_lastY).2) c4
  have hfs := cd_fs_lt (kd := x_builtKinds) hb
  have hfb := (cd_fs_b x_builtKinds nb).2
  have he36 : e < 36 := by omega
  have hene : e < ne := by omega
  have c : (12 : Int32) + nI b = nI (12 + b) := nI_add 12 b
  have cb := cd_cl (n := b) (by omega)
  have c12 := cd_cl (n := 12 + b) (by omega)
  have ce := cd_cl (n := e) (by omega)
  have cl := cd_cl (n := l.length) (by omega)
  have ee : x_firstEdge b + nI (cd_cx (x_builtKinds b) (cd_op (x_builtOps b) (x_builtOperands b) y_lastX y_lastY).1 (cd_op (x_builtOps b) (x_builtOperands b) y_lastX y_lastY).2) = nI e := by rw [c5, nI_add, he]
  have step : ∀ m, ((x_isBack e = 0 → (vp_in (nI e) 37 ∧ ((0 ≤ x_edgeTo e → (vp_in (nI e) 37 ∧ ∀ x3, x3 = x_edgeTo e → wY_run_58 postY m x3 (nI (l.length + 1)) (nI (s + 1)) (nI n) (nI nb) (nI ne) (nI ny) y_many ((cd_op (x_builtOps b) (x_builtOperands b) y_lastX y_lastY).1) ((cd_op (x_builtOps b) (x_builtOperands b) y_lastX y_lastY).2) (nI (s + 1)) y_op y_number y_kind y_target x_edgeFrom x_edgeTo x_edgeExit x_edgeWeight x_firstEdge x_inTree x_isBack y_row y_length (upd y_gone e (y_gone e + 1)) (upd y_done b (y_done b + 1)) y_went y_cut x_dumpKept y_mark (upd y_way l.length (nI e)) y_tried y_stack)) ∧ (¬ 0 ≤ x_edgeTo e → wY_run_194 postY (wY_run_58 postY m) (nI (l.length + 1)) (nI (s + 1)) (nI e) (nI n) (nI nb) (nI ne) (nI ny) y_many ((cd_op (x_builtOps b) (x_builtOperands b) y_lastX y_lastY).1) ((cd_op (x_builtOps b) (x_builtOperands b) y_lastX y_lastY).2) (nI (s + 1)) y_op y_number y_kind y_target x_edgeFrom x_edgeTo x_edgeExit x_edgeWeight x_firstEdge x_inTree x_isBack y_row y_length (upd y_gone e (y_gone e + 1)) (upd y_done b (y_done b + 1)) y_went y_cut x_dumpKept y_mark (upd y_way l.length (nI e)) y_tried y_stack)))) ∧ (¬ x_isBack e = 0 → wY_run_194 postY (wY_run_58 postY m) (nI (l.length + 1)) (nI (s + 1)) (nI e) (nI n) (nI nb) (nI ne) (nI ny) y_many ((cd_op (x_builtOps b) (x_builtOperands b) y_lastX y_lastY).1) ((cd_op (x_builtOps b) (x_builtOperands b) y_lastX y_lastY).2) (nI (s + 1)) y_op y_number y_kind y_target x_edgeFrom x_edgeTo x_edgeExit x_edgeWeight x_firstEdge x_inTree x_isBack y_row y_length (upd y_gone e (y_gone e + 1)) (upd y_done b (y_done b + 1)) y_went y_cut x_dumpKept y_mark (upd y_way l.length (nI e)) y_tried y_stack)) → wY_run_58 postY (m + 1) (nI b) (nI l.length) (nI s) (nI n) (nI nb) (nI ne) (nI ny) y_many y_lastX y_lastY y_lastBlocks y_op y_number y_kind y_target x_edgeFrom x_edgeTo x_edgeExit x_edgeWeight x_firstEdge x_inTree x_isBack y_row y_length y_gone y_done y_went y_cut x_dumpKept y_mark y_way y_tried y_stack := by
    intro m hm
    refine br_f (nI_pos (by omega)) ⟨pk_in (12 + b) 24 (by omega) c, pk_in (12 + b) 24 (by omega) c, ?_⟩
    rw [c, c12, cb, c1, c2]
    refine cd_yop ⟨pk_in b 36 (by omega), pk_in b 36 (by omega), nm_e (nm_r (nI_1 s) (pk_eq (s + 1) 100 (fun z => absurd z (by omega)) (fun _ => ⟨pk_in b 13 (by omega), pk_in (12 + b) 24 (by omega), ?_⟩)))⟩
    rw [c3]
    refine cd_ycx (nm_r ee ?_)
    rw [ce, cl]
    exact ⟨pk_in e 111 (by omega), pk_in e 111 (by omega), nm_e ⟨pk_in l.length 13 (by omega), nm_e (nm_r (nI_1 _) ⟨pk_in e 37 (by omega), hm⟩)⟩⟩
  have fin : cd_en x_isBack x_edgeTo e → ∃ m, wY_run_194 postY (wY_run_58 postY m) (nI (l.length + 1)) (nI (s + 1)) (nI e) (nI n) (nI nb) (nI ne) (nI ny) y_many ((cd_op (x_builtOps b) (x_builtOperands b) y_lastX y_lastY).1) ((cd_op (x_builtOps b) (x_builtOperands b) y_lastX y_lastY).2) (nI (s + 1)) y_op y_number y_kind y_target x_edgeFrom x_edgeTo x_edgeExit x_edgeWeight x_firstEdge x_inTree x_isBack y_row y_length (upd y_gone e (y_gone e + 1)) (upd y_done b (y_done b + 1)) y_went y_cut x_dumpKept y_mark (upd y_way l.length (nI e)) y_tried y_stack := by
    intro hen
    have hlen2 : (l ++ [e]).length = l.length + 1 := by simp
    have E : ∃ w, (∀ p, p < ny → (cd_rw y_row y_length p (l ++ [e]) → w p = y_went p + 1) ∧ (¬ cd_rw y_row y_length p (l ++ [e]) → w p = y_went p)) ∧ (∀ p, ny ≤ p → w p = y_went p) ∧ ∀ post : SY → Prop, post ((nI n), (nI nb), (nI ne), (nI ny), y_many, ((cd_op (x_builtOps b) (x_builtOperands b) y_lastX y_lastY).1), ((cd_op (x_builtOps b) (x_builtOperands b) y_lastX y_lastY).2), (nI (s + 1)), y_op, y_number, y_kind, y_target, x_edgeFrom, x_edgeTo, x_edgeExit, x_edgeWeight, x_firstEdge, x_inTree, x_isBack, y_row, y_length, (upd y_gone e (y_gone e + 1)), (upd y_done b (y_done b + 1)), w, y_cut, x_dumpKept, y_mark, (upd y_way l.length (nI e)), y_tried, y_stack) → wpY_countPath post ((nI n), (nI nb), (nI ne), (nI ny), y_many, ((cd_op (x_builtOps b) (x_builtOperands b) y_lastX y_lastY).1), ((cd_op (x_builtOps b) (x_builtOperands b) y_lastX y_lastY).2), (nI (s + 1)), y_op, y_number, y_kind, y_target, x_edgeFrom, x_edgeTo, x_edgeExit, x_edgeWeight, x_firstEdge, x_inTree, x_isBack, y_row, y_length, (upd y_gone e (y_gone e + 1)), (upd y_done b (y_done b + 1)), y_went, y_cut, x_dumpKept, y_mark, (upd y_way l.length (nI e)), y_tried, y_stack) (nI (l.length + 1)) := by
      refine cd_ycpE (by rw [hlen2]) hny (by omega) (fun i hi => ?_)
      by_cases g : i = l.length
      · subst g; rw [pk_us]; exact congrArg nI (by simp)
      · rw [pk_un g, hway i (by omega)]
        exact congrArg nI (List.getElem_append_left (by omega)).symm
    obtain ⟨w, w1, w2, w3⟩ := E
    obtain ⟨m, hm⟩ := h1 hen w w1 w2
    refine ⟨m, w3 _ ⟨pk_in e 37 (by omega), ?_⟩⟩
    rw [ce]
    exact nm_e hm
  by_cases hen : cd_en x_isBack x_edgeTo e
  · obtain ⟨m, hm⟩ := fin hen
    refine ⟨m + 1, step m ?_⟩
    refine br_c (fun z => ⟨pk_in e 37 (by omega), br_f ?_ hm⟩) (fun z => hm)
    rcases hen with g | g
    · exact absurd z g
    · rw [g]; decide
  · obtain ⟨m, hm⟩ := h0 hen
    have g1 : x_isBack e = 0 := Decidable.byContradiction (fun z => hen (Or.inl z))
    have g2 : ¬ x_edgeTo e = -1 := fun z => hen (Or.inr z)
    obtain ⟨t, ht, et⟩ := (b4 e hene).1.resolve_left g2
    refine ⟨m + 1, step m (br_t g1 ⟨pk_in e 37 (by omega), br_t ?_ ⟨pk_in e 37 (by omega), nm_e hm⟩⟩)⟩
    rw [et]; exact nI_pos' (by omega)
theorem cd_run (hnb : nb ≤ 12) (hB : cd_B nb ne x_builtOps x_builtOperands x_builtKinds x_firstEdge x_edgeFrom x_edgeTo y_op y_number y_kind) (hG : cd_PG nb x_builtKinds x_edgeTo x_isBack L rk) (hN : cd_PN nb x_builtKinds x_edgeTo x_isBack x_pathsFrom x_pathsBefore L rk G) (hPB : cd_PB nb ne x_edgeTo x_isBack x_beginsPaths) (hL : ∀ b, b < nb → x_beginsPaths b ≠ 0 → L b) (hF : ∀ b, b < nb → x_firstPath b = nI (cd_fp x_beginsPaths G b)) (hnp : np = cd_fp x_beginsPaths G nb) (ho : (y_many = 0 ∧ ny = np ∧ np ≤ 300) ∨ (¬ y_many = 0 ∧ ny = 300 ∧ 300 < np)) (hR : cd_PR nb ny x_builtKinds x_edgeTo x_isBack x_pathsBefore x_beginsPaths y_row y_length G) : ∀ d s b pt b0 l rx ry cn (post : Int32 → SX → Prop), s + d = 99 → b0 < nb → x_beginsPaths b0 ≠ 0 → cd_ch x_builtKinds x_edgeTo x_isBack b0 l b → pt = cd_fp x_beginsPaths G b0 + cd_es x_pathsBefore l →
    (∀ res rx' ry' rd' cn', (∀ (lb : Int32) (gone done went cut way : Nat → Int32), cd_C y_many (cn) gone done went cut → cd_K y_many ne x_dumped x_dumpKept gone done went cut → (∀ i (h : i < List.length (l)), way i = nI (l)[i]) → ∀ postY : Int32 → SY → Prop, (∀ gone' done' went' cut' way', cd_C y_many (cn') gone' done' went' cut' → cd_K y_many ne x_dumped x_dumpKept gone' done' went' cut' → postY res ((nI n), (nI nb), (nI ne), (nI ny), y_many, rx', ry', rd', y_op, y_number, y_kind, y_target, x_edgeFrom, x_edgeTo, x_edgeExit, x_edgeWeight, x_firstEdge, x_inTree, x_isBack, y_row, y_length, gone', done', went', cut', x_dumpKept, y_mark, way', y_tried, y_stack)) → ∃ m, wY_run_58 postY m (nI b) (nI (List.length (l))) (nI (s)) (nI n) (nI nb) (nI ne) (nI ny) y_many rx ry lb y_op y_number y_kind y_target x_edgeFrom x_edgeTo x_edgeExit x_edgeWeight x_firstEdge x_inTree x_isBack y_row y_length gone done went cut x_dumpKept y_mark way y_tried y_stack) → post res ((nI n), (nI nb), (nI ne), (nI np), rx', ry', rd', x_ops, x_operands, x_kinds, x_targets, x_builtOps, x_builtOperands, x_builtKinds, x_firstEdge, x_edgeFrom, x_edgeExit, x_edgeTo, x_edgeWeight, x_inTree, x_isBack, x_beginsPaths, x_firstPath, x_pathsFrom, x_pathsBefore, cn', x_dumped, x_dumpKept, x_looked, x_joined, x_met, x_nextExit, x_way)) → wX_run_61 post (d + 1) (nI b) (nI pt) (nI s) (nI n) (nI nb) (nI ne) (nI np) rx ry (nI s) x_ops x_operands x_kinds x_targets x_builtOps x_builtOperands x_builtKinds x_firstEdge x_edgeFrom x_edgeExit x_edgeTo x_edgeWeight x_inTree x_isBack x_beginsPaths x_firstPath x_pathsFrom x_pathsBefore cn x_dumped x_dumpKept x_looked x_joined x_met x_nextExit x_way := by
  intro d
  induction d with
  | zero =>
    intro s b pt b0 l rx ry cn post hsd hb0 hbg hch hpt hp
    obtain ⟨hb, hlb, hrl⟩ := cd_ch_len hG hnb l b0 b hb0 (hL b0 hb0 hbg) hch
    have : s = 99 := by omega
    subst this
    obtain ⟨b1, b2, b3, b4⟩ := hB
    obtain ⟨c1, c2, c3, c4, c5⟩ := b3 b hb
    have c : (12 : Int32) + nI b = nI (12 + b) := nI_add 12 b
    have cb := cd_cl (n := b) (by omega)
    have c12 := cd_cl (n := 12 + b) (by omega)
    refine pk_le 99 99 (fun _ => cd_xdo (by omega) (nm_e (hp 1 _ _ (nI 99 + 1) _ ?_))) (fun h => absurd h (by omega))
    intro lb gone done went cut way hC hK hway postY hpY
    refine ⟨1, br_f (nI_pos (by omega)) ⟨pk_in (12 + b) 24 (by omega) c, pk_in (12 + b) 24 (by omega) c, ?_⟩⟩
    rw [c, c12, cb, c1, c2]
    refine cd_yop ⟨pk_in b 36 (by omega), pk_in b 36 (by omega), nm_e (nm_e (br_t rfl (nm_e (hpY _ _ _ _ _ ?_ ?_))))⟩
    · exact cd_C3 (cd_C1 (by omega) hC)
    · exact cd_K1 hK (fun e he => rfl) (fun e he => pk_un (by omega)) (fun e he => rfl) (fun e he => pk_un (by omega))
  | succ d ih =>
    intro s b pt b0 l rx ry cn post hsd hb0 hbg hch hpt hp
    obtain ⟨hb, hlb, hrl⟩ := cd_ch_len hG hnb l b0 b hb0 (hL b0 hb0 hbg) hch
    have hrk0 := (hG.2 b0 hb0 (hL b0 hb0 hbg)).1
    have hB' := hB
    obtain ⟨b1, b2, b3, b4⟩ := hB
    obtain ⟨c1, c2, c3, c4, c5⟩ := b3 b hb
    have hk := cd_cx_lt (k := x_builtKinds b) (x := (cd_op (x_builtOps b) (x_builtOperands b) rx ry).1) (y := (cd_op (x_builtOps b) (x_builtOperands b) rx ry).2) c4
    have hfs := cd_fs_lt (kd := x_builtKinds) hb
    have hfb := (cd_fs_b x_builtKinds nb).2
    obtain ⟨q1, q2, q3, q4⟩ := cd_pbv hG hN hnb hb hlb hk
    have ee : x_firstEdge b + nI (cd_cx (x_builtKinds b) (cd_op (x_builtOps b) (x_builtOperands b) rx ry).1 (cd_op (x_builtOps b) (x_builtOperands b) rx ry).2) = nI (cd_fs x_builtKinds b + cd_cx (x_builtKinds b) (cd_op (x_builtOps b) (x_builtOperands b) rx ry).1 (cd_op (x_builtOps b) (x_builtOperands b) rx ry).2) := by rw [c5, nI_add]
    obtain ⟨k, hkd⟩ : ∃ k, k = cd_cx (x_builtKinds b) (cd_op (x_builtOps b) (x_builtOperands b) rx ry).1 (cd_op (x_builtOps b) (x_builtOperands b) rx ry).2 := ⟨_, rfl⟩
    rw [← hkd] at hk ee q1 q2 q3
    obtain ⟨e, hed⟩ : ∃ e, e = cd_fs x_builtKinds b + k := ⟨_, rfl⟩
    rw [← hed] at ee q1 q2
    have he36 : e < 36 := by omega
    have hene : e < ne := by omega
    have cb := cd_cl (n := b) (by omega)
    have ce := cd_cl (n := e) (by omega)
    have hexit : ∃ k, k < cd_ec (x_builtKinds b) ∧ e = cd_fs x_builtKinds b + k := ⟨k, hk, hed⟩
    have hfpb := cd_fp3 hG hN hL hnb (Nat.le_of_lt hb0)
    have hfpn : np ≤ 6377292 := by rw [hnp]; exact cd_fp3 hG hN hL hnb (Nat.le_refl nb)
    have hesl : cd_es x_pathsBefore (l ++ [e]) = cd_es x_pathsBefore l + cd_sm (cd_wt x_builtKinds x_edgeTo x_isBack G b) k := by rw [cd_es_s, q1]
    have hptn : nI pt + x_pathsBefore e = nI (cd_fp x_beginsPaths G b0 + cd_es x_pathsBefore (l ++ [e])) := by
      rw [q2, nI_add]
      exact congrArg nI (by omega)
    refine pk_le 99 s (fun h => absurd h (by omega)) (fun _ => cd_xdo (by omega) ⟨pk_in b 12 (by omega), pk_in b 12 (by omega), ?_⟩)
    rw [cb]
    refine cd_xcx ?_
    rw [← hkd]
    refine nm_r ee ⟨pk_in e 350 (by omega), pk_in e 350 (by omega), ?_⟩
    rw [ce]
    refine nm_e ⟨pk_in e 37 (by omega), nm_r hptn ⟨pk_in e 37 (by omega), nm_e (cd_xend rfl (by omega) (fun hen => ?_) (fun hen => ?_))⟩⟩
    · refine br_f (by decide) ?_
      have hvp := cd_ch_vp l b0 b hch hexit hen
      have hlt := cd_es_lt hG hN hnb _ b0 hb0 (hL b0 hb0 hbg) hvp
      have hst := cd_fp_st (G := G) hb0 hbg
      have hlen2 : (l ++ [e]).length = l.length + 1 := by simp
      -- whatever the counted path, the rest of the run
      have rest : ∀ cn3, (∀ (gone done went cut way w : Nat → Int32), cd_C y_many (upd (upd cn (37 + b) (cn (37 + b) + 1)) e ((upd cn (37 + b) (cn (37 + b) + 1)) e + 1)) gone done went cut → (∀ p, p < ny → (cd_rw y_row y_length p (l ++ [e]) → w p = went p + 1) ∧ (¬ cd_rw y_row y_length p (l ++ [e]) → w p = went p)) → (∀ p, ny ≤ p → w p = went p) → cd_C y_many cn3 gone done w cut) →
          ((x_edgeTo e = -1 → post 0 ((nI n), (nI nb), (nI ne), (nI np), ((cd_op (x_builtOps b) (x_builtOperands b) rx ry).1), ((cd_op (x_builtOps b) (x_builtOperands b) rx ry).2), (nI s + 1), x_ops, x_operands, x_kinds, x_targets, x_builtOps, x_builtOperands, x_builtKinds, x_firstEdge, x_edgeFrom, x_edgeExit, x_edgeTo, x_edgeWeight, x_inTree, x_isBack, x_beginsPaths, x_firstPath, x_pathsFrom, x_pathsBefore, cn3, x_dumped, x_dumpKept, x_looked, x_joined, x_met, x_nextExit, x_way)) ∧ (¬ x_edgeTo e = -1 → (vp_in (x_edgeTo e) 12 ∧ ∀ x4, x4 = x_firstPath (x_edgeTo e).toNatClampNeg → ∀ x5, x5 = nI s + 1 → wX_run_61 post (d + 1) (x_edgeTo e) x4 x5 (nI n) (nI nb) (nI ne) (nI np) ((cd_op (x_builtOps b) (x_builtOperands b) rx ry).1) ((cd_op (x_builtOps b) (x_builtOperands b) rx ry).2) (nI s + 1) x_ops x_operands x_kinds x_targets x_builtOps x_builtOperands x_builtKinds x_firstEdge x_edgeFrom x_edgeExit x_edgeTo x_edgeWeight x_inTree x_isBack x_beginsPaths x_firstPath x_pathsFrom x_pathsBefore cn3 x_dumped x_dumpKept x_looked x_joined x_met x_nextExit x_way))) := by
        intro cn3 hcn3
        refine br_c (fun hout => hp 0 _ _ _ _ ?_) (fun hin => ?_)
        · intro lb gone done went cut way hC hK hway postY hpY
          refine cd_yrun1 hnb hB' hG hN hPB hL hF hnp ho hR hb (by omega) (by omega) hway (hed.trans (congrArg _ hkd)) (fun z => absurd hen z) (fun _ w w1 w2 => ⟨1, ?_⟩)
          rw [hout]
          refine br_t (by decide) ?_
          rw [← nI_1]
          refine hpY _ _ _ _ _ (hcn3 _ _ went cut way w (cd_C2 (by omega) (cd_C1 (by omega) hC)) w1 w2) ?_
          exact cd_K1 hK (fun e he => pk_un (by omega)) (fun e he => pk_un (by omega)) (fun p hp => w2 p (by omega)) (fun e he => rfl)
        · obtain ⟨t, ht, et⟩ := (b4 e hene).1.resolve_left hin
          have ct : (x_edgeTo e).toNatClampNeg = t := by rw [et, cd_cl (by omega)]
          have hib : x_isBack e ≠ 0 := by
            rcases hen with g | g
            · exact g
            · exact absurd g hin
          have hbgt : x_beginsPaths t ≠ 0 := (hPB t ht).mpr (Or.inr ⟨e, hene, hib, et⟩)
          refine ⟨by rw [et]; exact pk_in t 12 (by omega), ?_⟩
          rw [ct, et]
          refine nm_r (hF t ht) (nm_r (nI_1 s) ?_)
          rw [nI_1 s]
          refine ih (s + 1) t _ t [] _ _ cn3 post (by omega) ht hbgt (by unfold cd_ch; rfl) (by show _ = _ + 0; omega) (fun res rx' ry' rd' cn' hY => hp res rx' ry' rd' cn' ?_)
          intro lb gone done went cut way hC hK hway postY hpY
          refine cd_yrun1 hnb hB' hG hN hPB hL hF hnp ho hR hb (by omega) (by omega) hway (hed.trans (congrArg _ hkd)) (fun z => absurd hen z) (fun _ w w1 w2 => ?_)
          rw [et]
          refine hY _ _ _ _ _ _ (hcn3 _ _ went cut way w (cd_C2 (by omega) (cd_C1 (by omega) hC)) w1 w2) ?_ (fun i h => absurd h (by simp)) postY hpY
          exact cd_K1 hK (fun e he => pk_un (by omega)) (fun e he => pk_un (by omega)) (fun p hp => w2 p (by omega)) (fun e he => rfl)
      unfold wpX_countPath wpX_tooManyPaths
      dsimp only
      have cq : (49 : Int32) + nI (cd_fp x_beginsPaths G b0 + cd_es x_pathsBefore (l ++ [e])) = nI (49 + (cd_fp x_beginsPaths G b0 + cd_es x_pathsBefore (l ++ [e]))) := nI_add 49 _
      refine pk_le np 300 (fun h3 => br_t rfl ⟨pk_in _ 350 (by omega) cq, pk_in _ 350 (by omega) cq, ?_⟩) (fun h3 => br_f (by decide) ?_)
      · have ho' : y_many = 0 ∧ ny = np ∧ np ≤ 300 := by
          rcases ho with ho | ho
          · exact ho
          · omega
        rw [cq, cd_cl (by omega)]
        refine nm_e (rest _ (fun gone done went cut way w hC w1 w2 => cd_C4 (by omega) hC (fun p hp => ?_)))
        by_cases g : p < ny
        · have hm := cd_match hnb hG hN hL hR hb0 hbg hvp g
          exact ⟨fun z => (w1 p g).1 (hm.mpr z), fun z => (w1 p g).2 (fun y => z (hm.mp y))⟩
        · exact ⟨fun z => by omega, fun _ => w2 p (by omega)⟩
      · have ho' : ¬ y_many = 0 := by
          rcases ho with ho | ho
          · omega
          · exact ho.1
        exact rest _ (fun gone done went cut way w hC w1 w2 => cd_C5 ho' hC)
    · refine br_t rfl (nm_r (nI_1 s) ?_)
      obtain ⟨t, ht, et, ct, lt, rt, _⟩ := cd_nx1 (G := G) hG hnb hb hlb hk (by rw [← hed]; exact hen)
      rw [← hed] at et ct
      have hch2 := cd_ch_s l b0 b hch hexit hen
      rw [ct] at hch2
      have hlen2 : (l ++ [e]).length = l.length + 1 := by simp
      rw [et, nI_1 s]
      refine ih (s + 1) t _ b0 (l ++ [e]) _ _ _ post (by omega) hb0 hbg hch2 rfl (fun res rx' ry' rd' cn' hY => hp res rx' ry' rd' cn' ?_)
      intro lb gone done went cut way hC hK hway postY hpY
      refine cd_yrun1 hnb hB' hG hN hPB hL hF hnp ho hR hb (by omega) (by omega) hway (hed.trans (congrArg _ hkd)) (fun _ => ?_) (fun z => absurd z hen)
      rw [et, ← hlen2]
      refine hY _ _ _ _ _ _ (cd_C2 (by omega) (cd_C1 (by omega) hC)) ?_ (fun i hi => ?_) postY hpY
      · exact cd_K1 hK (fun e he => pk_un (by omega)) (fun e he => pk_un (by omega)) (fun p hp => rfl) (fun e he => rfl)
      · rw [hlen2] at hi
        by_cases g : i = l.length
        · subst g; rw [pk_us]; exact congrArg nI (by simp)
        · rw [pk_un g, hway i (by omega)]
          exact congrArg nI (List.getElem_append_left (by omega)).symm
end
theorem i_vc_run {k : Nat} {u : SX} {v : SY} (I : i_Rel k u v) (hk : k + 6 ≤ 3072) (v1 : Int32) (v2 : Int32) : wpX_run (fun r u' => wpY_run (fun r' v' => r' = r ∧ i_Rel (k + 6) u' v') v v1 v2) u v1 v2 := by
  have I' := i_up I
  obtain ⟨x_blocks, x_builtBlocks, x_edges, x_paths, x_runX, x_runY, x_runDone, x_ops, x_operands, x_kinds, x_targets, x_builtOps, x_builtOperands, x_builtKinds, x_firstEdge, x_edgeFrom, x_edgeExit, x_edgeTo, x_edgeWeight, x_inTree, x_isBack, x_beginsPaths, x_firstPath, x_pathsFrom, x_pathsBefore, x_counts, x_dumped, x_dumpKept, x_looked, x_joined, x_met, x_nextExit, x_way⟩ := u
  obtain ⟨y_made, y_blocks, y_edges, y_paths, y_many, y_lastX, y_lastY, y_lastBlocks, y_op, y_number, y_kind, y_target, y_from, y_to, y_exit, y_weight, y_firstEdge, y_tree, y_back, y_row, y_length, y_gone, y_done, y_went, y_cut, y_kept, y_mark, y_way, y_tried, y_stack⟩ := v
  obtain ⟨n, nb, ne, np, rfl, rfl, rfl, rfl, rfl, rfl, rfl, rfl, rfl, rfl, rfl, rfl, rfl, rfl, rfl, rfl, rfl, rfl, hD, hB, hC, hK, hP⟩ := I
  have hne := cd_ne hB
  unfold wpX_run wpX_runs wpY_run
  dsimp only
  refine pk_eq nb 0 (fun hz => ?_) (fun hz => ?_)
  · exact pk_eq ne 0 (fun _ => ⟨rfl, I'⟩) (fun z => absurd z (by omega))
  obtain ⟨L, rk, G, hG, hN, hPB, hL, hF, hnp, ny, rfl, ho, hR⟩ := hP.2 (by omega)
  obtain ⟨m, rfl⟩ : ∃ m, ne = m + 1 := ⟨ne - 1, by omega⟩
  have c : nI (m + 1) - 1 = nI m := nI_pred m
  have cm := cd_cl (n := m) (by omega)
  have hnb := hne.1
  refine pk_eq (m + 1) 0 (fun z => absurd z (by omega)) (fun _ => ⟨pk_in m 350 (by omega) c, ?_⟩)
  have hcm := hC.1 m (by omega)
  rw [c, cm]
  refine br_c (fun hlt => ⟨pk_in m 350 (by omega), pk_in m 350 (by omega), nm_e (nm_r (hF 0 (by omega)) ?_)⟩) (fun hge => ?_)
  · refine Exists.intro (99 + 1) (cd_run (n := n) (y_target := y_target) (y_mark := y_mark) (y_tried := y_tried) (y_stack := y_stack) (rk := rk) hnb hB hG hN hPB hL hF hnp ho hR 99 0 0 _ 0 [] v1 v2 _ _ (by omega) (by omega) ((hPB 0 (by omega)).mpr (Or.inl rfl)) (by unfold cd_ch; rfl) (by show _ = _ + 0; omega) (fun res rx' ry' rd' cn' hY => ?_))
    refine pk_eq (m + 1) 0 (fun z => absurd z (by omega)) (fun _ => ⟨pk_in m 111 (by omega), br_t (by rw [hcm]; exact hlt) ⟨pk_in m 111 (by omega), pk_in m 111 (by omega), nm_e ?_⟩⟩)
    refine hY x_runDone _ y_done y_went y_cut y_way (cd_C2 (by omega) hC) (cd_K1 hK (fun e he => pk_un (by omega)) (fun e he => rfl) (fun e he => rfl) (fun e he => rfl)) (fun i h => absurd h (by simp)) _ (fun gone' done' went' cut' way' hC' hK' => ⟨rfl, ?_⟩)
    exact cd_mk n nb (m + 1) np hD hB hC' hK' hP
  · exact pk_eq (m + 1) 0 (fun z => absurd z (by omega)) (fun _ => ⟨pk_in m 111 (by omega), br_f (by rw [hcm]; exact hge) ⟨rfl, I'⟩⟩)
end
section
/-- the edges' own values: block, exit, target; the entry edge behind them -/
noncomputable def cd_eF (kd : Nat → Int32) (n e : Nat) : Int32 := @ite _ (∃ b k, b < n ∧ k < cd_ec (kd b) ∧ e = cd_fs kd b + k) (Classical.propDecidable _) (nI (Classical.epsilon (fun b => ∃ k, b < n ∧ k < cd_ec (kd b) ∧ e = cd_fs kd b + k))) (-1)
noncomputable def cd_eE (kd : Nat → Int32) (n e : Nat) : Int32 := @ite _ (∃ b k, b < n ∧ k < cd_ec (kd b) ∧ e = cd_fs kd b + k) (Classical.propDecidable _) (nI (Classical.epsilon (fun k => ∃ b, b < n ∧ k < cd_ec (kd b) ∧ e = cd_fs kd b + k))) 0
noncomputable def cd_eT (kd tg : Nat → Int32) (n e : Nat) : Int32 := @ite _ (∃ b k, b < n ∧ k < cd_ec (kd b) ∧ e = cd_fs kd b + k) (Classical.propDecidable _) (tg (3 * Classical.epsilon (fun b => ∃ k, b < n ∧ k < cd_ec (kd b) ∧ e = cd_fs kd b + k) + Classical.epsilon (fun k => ∃ b, b < n ∧ k < cd_ec (kd b) ∧ e = cd_fs kd b + k))) 0
theorem cd_eb {kd : Nat → Int32} {n b k : Nat} (hb : b < n) (hk : k < cd_ec (kd b)) : Classical.epsilon (fun b' => ∃ k', b' < n ∧ k' < cd_ec (kd b') ∧ cd_fs kd b + k = cd_fs kd b' + k') = b := by
  obtain ⟨k', h1, h2, h3⟩ := Classical.epsilon_spec (p := fun b' => ∃ k', b' < n ∧ k' < cd_ec (kd b') ∧ cd_fs kd b + k = cd_fs kd b' + k') ⟨b, k, hb, hk, rfl⟩
  exact (cd_fs_inj hk h2 h3).1.symm
theorem cd_ek {kd : Nat → Int32} {n b k : Nat} (hb : b < n) (hk : k < cd_ec (kd b)) : Classical.epsilon (fun k' => ∃ b', b' < n ∧ k' < cd_ec (kd b') ∧ cd_fs kd b + k = cd_fs kd b' + k') = k := by
  obtain ⟨b', h1, h2, h3⟩ := Classical.epsilon_spec (p := fun k' => ∃ b', b' < n ∧ k' < cd_ec (kd b') ∧ cd_fs kd b + k = cd_fs kd b' + k') ⟨k, b, hb, hk, rfl⟩
  exact (cd_fs_inj hk h2 h3).2.symm
theorem cd_eFv {kd : Nat → Int32} {n b k : Nat} (hb : b < n) (hk : k < cd_ec (kd b)) : cd_eF kd n (cd_fs kd b + k) = nI b := by
  unfold cd_eF
  rw [if_pos ⟨b, k, hb, hk, rfl⟩, cd_eb hb hk]
theorem cd_eEv {kd : Nat → Int32} {n b k : Nat} (hb : b < n) (hk : k < cd_ec (kd b)) : cd_eE kd n (cd_fs kd b + k) = nI k := by
  unfold cd_eE
  rw [if_pos ⟨b, k, hb, hk, rfl⟩, cd_ek hb hk]
theorem cd_eTv {kd tg : Nat → Int32} {n b k : Nat} (hb : b < n) (hk : k < cd_ec (kd b)) : cd_eT kd tg n (cd_fs kd b + k) = tg (3 * b + k) := by
  unfold cd_eT
  rw [if_pos ⟨b, k, hb, hk, rfl⟩, cd_eb hb hk, cd_ek hb hk]
theorem cd_eno {kd : Nat → Int32} {n : Nat} : ¬ ∃ b k, b < n ∧ k < cd_ec (kd b) ∧ cd_fs kd n = cd_fs kd b + k := by
  rintro ⟨b, k, h1, h2, h3⟩
  have := cd_fs_lt (kd := kd) h1
  omega
theorem cd_eFn {kd : Nat → Int32} {n : Nat} : cd_eF kd n (cd_fs kd n) = -1 := if_neg cd_eno
theorem cd_eEn {kd : Nat → Int32} {n : Nat} : cd_eE kd n (cd_fs kd n) = 0 := if_neg cd_eno
theorem cd_eTn {kd tg : Nat → Int32} {n : Nat} : cd_eT kd tg n (cd_fs kd n) = 0 := if_neg cd_eno
/-- every edge is a block's or the entry -/
theorem cd_ewh {kd : Nat → Int32} : ∀ n e, e < cd_fs kd n → ∃ b k, b < n ∧ k < cd_ec (kd b) ∧ e = cd_fs kd b + k
  | 0, e, h => absurd h (by show ¬ e < 0; omega)
  | n + 1, e, h => by
    rw [cd_fs_s] at h
    by_cases g : e < cd_fs kd n
    · obtain ⟨b, k, h1, h2, h3⟩ := cd_ewh n e g
      exact ⟨b, k, by omega, h2, h3⟩
    · exact ⟨n, e - cd_fs kd n, by omega, by omega, by omega⟩
/-- all targets are there -/
def cd_at (n : Nat) (kinds targets : Nat → Int32) : Prop := ∀ b, b < n → kinds b ≠ 0 → ∀ k, k < cd_ec (kinds b) → ∃ t : Nat, t < n ∧ targets (3 * b + k) = nI t
section
variable {x_blocks x_builtBlocks x_edges x_paths x_runX x_runY x_runDone : Int32} {x_ops x_operands x_kinds x_targets x_builtOps x_builtOperands x_builtKinds x_firstEdge x_edgeFrom x_edgeExit x_edgeTo x_edgeWeight x_inTree x_isBack x_beginsPaths x_firstPath x_pathsFrom x_pathsBefore x_counts x_dumped x_dumpKept x_looked x_joined x_met x_nextExit x_way : Nat → Int32} {y_made y_blocks y_edges y_paths y_many y_lastX y_lastY y_lastBlocks : Int32} {y_op y_number y_kind y_target y_from y_to y_exit y_weight y_firstEdge y_tree y_back y_row y_length y_gone y_done y_went y_cut y_kept y_mark y_way y_tried y_stack : Nat → Int32}
theorem cd_xall {post : Int32 → Prop} {n : Nat} {op number kind target : Nat → Int32} (hD : cd_D n x_ops x_operands x_kinds x_targets op number kind target) (h1 : cd_at n x_kinds x_targets → post 1) (h0 : ¬ cd_at n x_kinds x_targets → post 0) : wpX_allTargetsThere post ((nI n), x_builtBlocks, x_edges, x_paths, x_runX, x_runY, x_runDone, x_ops, x_operands, x_kinds, x_targets, x_builtOps, x_builtOperands, x_builtKinds, x_firstEdge, x_edgeFrom, x_edgeExit, x_edgeTo, x_edgeWeight, x_inTree, x_isBack, x_beginsPaths, x_firstPath, x_pathsFrom, x_pathsBefore, x_counts, x_dumped, x_dumpKept, x_looked, x_joined, x_met, x_nextExit, x_way) := by
  have hn := hD.1
  have H : ∀ d b, b + d = n → (∀ c, c < b → x_kinds c ≠ 0 → ∀ k, k < cd_ec (x_kinds c) → ∃ t : Nat, t < n ∧ x_targets (3 * c + k) = nI t) → wX_allTargetsThere_2 post (nI n) x_builtBlocks x_edges x_paths x_runX x_runY x_runDone x_ops x_operands x_kinds x_targets x_builtOps x_builtOperands x_builtKinds x_firstEdge x_edgeFrom x_edgeExit x_edgeTo x_edgeWeight x_inTree x_isBack x_beginsPaths x_firstPath x_pathsFrom x_pathsBefore x_counts x_dumped x_dumpKept x_looked x_joined x_met x_nextExit x_way (d + 1) (nI b) := by
    intro d
    induction d with
    | zero =>
      intro b hb hall
      have : b = n := by omega
      subst this
      exact pk_le b b (fun _ => h1 hall) (fun h => absurd h (by omega))
    | succ d ih =>
      intro b hb hall
      obtain ⟨d1, d2, d3⟩ := hD.2.2 b (by omega)
      refine pk_le n b (fun h => absurd h (by omega)) (fun _ => ⟨pk_in b 12 (by omega), ?_⟩)
      rw [cd_cl (by omega)]
      refine cd_xec ⟨cd_ec (x_kinds b) + 1, ?_⟩
      have hr := cd_ec_r (x_kinds b)
      have K : ∀ r k, k + r = cd_ec (x_kinds b) → (x_kinds b ≠ 0 → ∀ j, j < k → ∃ t : Nat, t < n ∧ x_targets (3 * b + j) = nI t) → wX_allTargetsThere_22 post (wX_allTargetsThere_2 post (nI n) x_builtBlocks x_edges x_paths x_runX x_runY x_runDone x_ops x_operands x_kinds x_targets x_builtOps x_builtOperands x_builtKinds x_firstEdge x_edgeFrom x_edgeExit x_edgeTo x_edgeWeight x_inTree x_isBack x_beginsPaths x_firstPath x_pathsFrom x_pathsBefore x_counts x_dumped x_dumpKept x_looked x_joined x_met x_nextExit x_way (d + 1)) (nI b) (nI (cd_ec (x_kinds b))) (nI n) x_builtBlocks x_edges x_paths x_runX x_runY x_runDone x_ops x_operands x_kinds x_targets x_builtOps x_builtOperands x_builtKinds x_firstEdge x_edgeFrom x_edgeExit x_edgeTo x_edgeWeight x_inTree x_isBack x_beginsPaths x_firstPath x_pathsFrom x_pathsBefore x_counts x_dumped x_dumpKept x_looked x_joined x_met x_nextExit x_way (r + 1) (nI k) := by
        intro r
        induction r with
        | zero =>
          intro k hk hal
          refine pk_le (cd_ec (x_kinds b)) k (fun _ => nm_r (nI_1 b) (ih (b + 1) (by omega) (fun c hc hz j hj => ?_))) (fun h => absurd h (by omega))
          by_cases e : c = b
          · subst e; exact hal hz j (by omega)
          · exact hall c (by omega) hz j hj
        | succ r ih2 =>
          intro k hk hal
          have c : nI b * 3 + nI k = nI (3 * b + k) := by rw [show (3 : Int32) = nI 3 from rfl, pk_mul, nI_add, Nat.mul_comm]
          refine pk_le (cd_ec (x_kinds b)) k (fun h => absurd h (by omega)) (fun _ => ⟨pk_in (3 * b + k) 36 (by omega) c, ?_⟩)
          rw [c, cd_cl (by omega)]
          by_cases hz : x_kinds b = 0
          · have he : cd_ec (x_kinds b) = 1 := by rw [hz]; decide
            have hk0 : k = 0 := by omega
            subst hk0
            have e := d2 hz
            refine br_t (by show x_targets (3 * b) < nI n; rw [e, Int32.lt_iff_toInt_lt, nI_toInt (by omega)]; have : (-1 : Int32).toInt = -1 := by decide
                            omega) (nm_r (nI_1 0) (ih2 1 (by omega) (fun z => absurd hz z)))
          · obtain ⟨t, ht, et⟩ := (d3 hz).2 k (by omega)
            refine pk_lt t n (fun hlt => nm_r (nI_1 k) (ih2 (k + 1) (by omega) (fun _ j hj => ?_))) (fun hge => h0 (fun hat => ?_)) et
            · by_cases e : j = k
              · subst e; exact ⟨t, hlt, et⟩
              · exact hal hz j (by omega)
            · obtain ⟨t', ht', et'⟩ := hat b (by omega) hz k (by omega)
              rw [et, nI_eq (by omega) (by omega)] at et'
              omega
      exact K (cd_ec (x_kinds b)) 0 (by omega) (fun _ j hj => absurd hj (by omega))
  exact Exists.intro (n + 1) (H n 0 (by omega) (fun c hc => absurd hc (by omega)))
theorem cd_ywhole {post : Int32 → Prop} {n : Nat} {ops operands kinds targets : Nat → Int32} (hD : cd_D n ops operands kinds targets y_op y_number y_kind y_target) (h1 : 0 < n → cd_at n kinds targets → post 1) (h0 : (n = 0 ∨ ¬ cd_at n kinds targets) → post 0) : wpY_whole post ((nI n), y_blocks, y_edges, y_paths, y_many, y_lastX, y_lastY, y_lastBlocks, y_op, y_number, y_kind, y_target, y_from, y_to, y_exit, y_weight, y_firstEdge, y_tree, y_back, y_row, y_length, y_gone, y_done, y_went, y_cut, y_kept, y_mark, y_way, y_tried, y_stack) := by
  have hn := hD.1
  have H : ∀ d b, b + d = n → (∀ c, c < b → kinds c ≠ 0 → ∀ k, k < cd_ec (kinds c) → ∃ t : Nat, t < n ∧ targets (3 * c + k) = nI t) → wY_whole_2 post (nI n) y_blocks y_edges y_paths y_many y_lastX y_lastY y_lastBlocks y_op y_number y_kind y_target y_from y_to y_exit y_weight y_firstEdge y_tree y_back y_row y_length y_gone y_done y_went y_cut y_kept y_mark y_way y_tried y_stack (d + 1) (nI b) := by
    intro d
    induction d with
    | zero =>
      intro b hb hall
      have : b = n := by omega
      subst this
      exact pk_le b b (fun _ => pk_le b 0 (fun h => h0 (Or.inl (by omega))) (fun h => h1 h hall)) (fun h => absurd h (by omega))
    | succ d ih =>
      intro b hb hall
      obtain ⟨d1, d2, d3⟩ := hD.2.2 b (by omega)
      obtain ⟨f1, f2, f3, f4, f5⟩ := hD.2.1 b (by omega)
      have hr := cd_ec_r (kinds b)
      refine pk_le n b (fun h => absurd h (by omega)) (fun _ => ⟨pk_in b 24 (by omega), ?_⟩)
      rw [cd_cl (by omega), f3]
      refine br_c (fun hz => ⟨1, pk_le 0 0 (fun _ => nm_r (nI_1 b) (ih (b + 1) (by omega) (fun c hc hz2 j hj => ?_))) (fun h => absurd h (by omega))⟩) (fun hz => ⟨pk_in b 24 (by omega), cd_yec d1 ⟨cd_ec (kinds b) + 1, ?_⟩⟩)
      · by_cases e : c = b
        · subst e; exact absurd hz hz2
        · exact hall c (by omega) hz2 j hj
      have K : ∀ r k, k + r = cd_ec (kinds b) → (∀ j, j < k → ∃ t : Nat, t < n ∧ targets (3 * b + j) = nI t) → wY_whole_35 post (wY_whole_2 post (nI n) y_blocks y_edges y_paths y_many y_lastX y_lastY y_lastBlocks y_op y_number y_kind y_target y_from y_to y_exit y_weight y_firstEdge y_tree y_back y_row y_length y_gone y_done y_went y_cut y_kept y_mark y_way y_tried y_stack (d + 1)) (nI b) (nI (cd_ec (kinds b))) (nI n) y_blocks y_edges y_paths y_many y_lastX y_lastY y_lastBlocks y_op y_number y_kind y_target y_from y_to y_exit y_weight y_firstEdge y_tree y_back y_row y_length y_gone y_done y_went y_cut y_kept y_mark y_way y_tried y_stack (r + 1) (nI k) := by
        intro r
        induction r with
        | zero =>
          intro k hk hal
          refine pk_le (cd_ec (kinds b)) k (fun _ => nm_r (nI_1 b) (ih (b + 1) (by omega) (fun c hc hz j hj => ?_))) (fun h => absurd h (by omega))
          by_cases e : c = b
          · subst e; exact hal j (by omega)
          · exact hall c (by omega) hz j hj
        | succ r ih2 =>
          intro k hk hal
          have c : 3 * nI b + nI k = nI (3 * b + k) := by rw [show (3 : Int32) = nI 3 from rfl, pk_mul, nI_add]
          refine pk_le (cd_ec (kinds b)) k (fun h => absurd h (by omega)) (fun _ => ⟨pk_in (3 * b + k) 72 (by omega) c, ?_⟩)
          rw [c, cd_cl (by omega)]
          obtain ⟨t, ht, et⟩ := (d3 hz).2 k (by omega)
          have eY : y_target (3 * b + k) = targets (3 * b + k) := by
            by_cases k0 : k = 0
            · subst k0; exact (d3 hz).1
            · by_cases k1 : k = 1
              · subst k1; exact f4
              · have : k = 2 := by omega
                subst this; exact f5
          refine pk_lt t n (fun hlt => nm_r (nI_1 k) (ih2 (k + 1) (by omega) (fun j hj => ?_))) (fun hge => h0 (Or.inr (fun hat => ?_))) (eY.trans et)
          · by_cases e : j = k
            · subst e; exact ⟨t, hlt, et⟩
            · exact hal j (by omega)
          · obtain ⟨t', ht', et'⟩ := hat b (by omega) hz k (by omega)
            rw [et, nI_eq (by omega) (by omega)] at et'
            omega
      exact K (cd_ec (kinds b)) 0 (by omega) (fun j hj => absurd hj (by omega))
  exact Exists.intro (n + 1) (H n 0 (by omega) (fun c hc => absurd hc (by omega)))
theorem cd_xapp {post : SX → Prop} {nb b m : Nat} {p0 p1 p2 : Int32} (hm : m < 37) (h0 : p0 = cd_eF x_builtKinds nb m) (h1 : p1 = cd_eE x_builtKinds nb m) (h2 : p2 = cd_eT x_builtKinds x_targets nb m) (hp : post (x_blocks, (nI nb), (nI (m + 1)), x_paths, x_runX, x_runY, x_runDone, x_ops, x_operands, x_kinds, x_targets, x_builtOps, x_builtOperands, x_builtKinds, (cd_fo x_firstEdge 0 (b) (fun c => nI (cd_fs x_builtKinds c))), (cd_fo x_edgeFrom 0 (m + 1) (cd_eF x_builtKinds nb)), (cd_fo x_edgeExit 0 (m + 1) (cd_eE x_builtKinds nb)), (cd_fo x_edgeTo 0 (m + 1) (cd_eT x_builtKinds x_targets nb)), (cd_fo x_edgeWeight 0 (m + 1) (fun _ => 0)), x_inTree, (cd_fo x_isBack 0 (m + 1) (fun _ => 0)), x_beginsPaths, x_firstPath, x_pathsFrom, (cd_fo x_pathsBefore 0 (m + 1) (fun _ => 0)), x_counts, x_dumped, x_dumpKept, x_looked, x_joined, x_met, x_nextExit, x_way)) : wpX_appendEdge post (x_blocks, (nI nb), (nI (m)), x_paths, x_runX, x_runY, x_runDone, x_ops, x_operands, x_kinds, x_targets, x_builtOps, x_builtOperands, x_builtKinds, (cd_fo x_firstEdge 0 (b) (fun c => nI (cd_fs x_builtKinds c))), (cd_fo x_edgeFrom 0 (m) (cd_eF x_builtKinds nb)), (cd_fo x_edgeExit 0 (m) (cd_eE x_builtKinds nb)), (cd_fo x_edgeTo 0 (m) (cd_eT x_builtKinds x_targets nb)), (cd_fo x_edgeWeight 0 (m) (fun _ => 0)), x_inTree, (cd_fo x_isBack 0 (m) (fun _ => 0)), x_beginsPaths, x_firstPath, x_pathsFrom, (cd_fo x_pathsBefore 0 (m) (fun _ => 0)), x_counts, x_dumped, x_dumpKept, x_looked, x_joined, x_met, x_nextExit, x_way) p0 p1 p2 :=
  have i : vp_in (nI m) 37 := pk_in m 37 hm
  ⟨i, nm_r (cd_fo_z (by omega) h0) ⟨i, nm_r (cd_fo_z (by omega) h1) ⟨i, nm_r (cd_fo_z (by omega) h2) ⟨i, nm_r (cd_fo_z (by omega) rfl) ⟨i, nm_r (cd_fo_z (by omega) rfl) ⟨i, nm_r (cd_fo_z (by omega) rfl) (nm_r (nI_1 m) hp)⟩⟩⟩⟩⟩⟩
theorem cd_xlist {post : SX → Prop} {nb : Nat} (hnb : nb ≤ 12) (hp : post (x_blocks, (nI nb), (nI (cd_fs x_builtKinds nb + 1)), x_paths, x_runX, x_runY, x_runDone, x_ops, x_operands, x_kinds, x_targets, x_builtOps, x_builtOperands, x_builtKinds, (cd_fo x_firstEdge 0 (nb) (fun c => nI (cd_fs x_builtKinds c))), (cd_fo x_edgeFrom 0 (cd_fs x_builtKinds nb + 1) (cd_eF x_builtKinds nb)), (cd_fo x_edgeExit 0 (cd_fs x_builtKinds nb + 1) (cd_eE x_builtKinds nb)), (cd_fo x_edgeTo 0 (cd_fs x_builtKinds nb + 1) (cd_eT x_builtKinds x_targets nb)), (cd_fo x_edgeWeight 0 (cd_fs x_builtKinds nb + 1) (fun _ => 0)), x_inTree, (cd_fo x_isBack 0 (cd_fs x_builtKinds nb + 1) (fun _ => 0)), x_beginsPaths, x_firstPath, x_pathsFrom, (cd_fo x_pathsBefore 0 (cd_fs x_builtKinds nb + 1) (fun _ => 0)), x_counts, x_dumped, x_dumpKept, x_looked, x_joined, x_met, x_nextExit, x_way)) : wpX_listEdges post (x_blocks, (nI nb), x_edges, x_paths, x_runX, x_runY, x_runDone, x_ops, x_operands, x_kinds, x_targets, x_builtOps, x_builtOperands, x_builtKinds, x_firstEdge, x_edgeFrom, x_edgeExit, x_edgeTo, x_edgeWeight, x_inTree, x_isBack, x_beginsPaths, x_firstPath, x_pathsFrom, x_pathsBefore, x_counts, x_dumped, x_dumpKept, x_looked, x_joined, x_met, x_nextExit, x_way) := by
  have hfs := (cd_fs_b x_builtKinds nb).2
  have H : ∀ d b, b + d = nb → wX_listEdges_7 post (d + 1) (nI b) x_blocks (nI nb) (nI (cd_fs x_builtKinds b)) x_paths x_runX x_runY x_runDone x_ops x_operands x_kinds x_targets x_builtOps x_builtOperands x_builtKinds (cd_fo x_firstEdge 0 (b) (fun c => nI (cd_fs x_builtKinds c))) (cd_fo x_edgeFrom 0 (cd_fs x_builtKinds b) (cd_eF x_builtKinds nb)) (cd_fo x_edgeExit 0 (cd_fs x_builtKinds b) (cd_eE x_builtKinds nb)) (cd_fo x_edgeTo 0 (cd_fs x_builtKinds b) (cd_eT x_builtKinds x_targets nb)) (cd_fo x_edgeWeight 0 (cd_fs x_builtKinds b) (fun _ => 0)) x_inTree (cd_fo x_isBack 0 (cd_fs x_builtKinds b) (fun _ => 0)) x_beginsPaths x_firstPath x_pathsFrom (cd_fo x_pathsBefore 0 (cd_fs x_builtKinds b) (fun _ => 0)) x_counts x_dumped x_dumpKept x_looked x_joined x_met x_nextExit x_way := by
    intro d
    induction d with
    | zero =>
      intro b hb
      have : b = nb := by omega
      subst this
      exact pk_le b b (fun _ => cd_xapp (by omega) cd_eFn.symm cd_eEn.symm cd_eTn.symm hp) (fun h => absurd h (by omega))
    | succ d ih =>
      intro b hb
      have hlt := cd_fs_lt (kd := x_builtKinds) (b := b) (c := nb) (by omega)
      refine pk_le nb b (fun h => absurd h (by omega)) (fun _ => ⟨pk_in b 12 (by omega), nm_r (cd_fo_z (by omega) rfl) ⟨pk_in b 12 (by omega), ?_⟩⟩)
      rw [cd_cl (by omega)]
      refine cd_xec ⟨cd_ec (x_builtKinds b) + 1, ?_⟩
      have K : ∀ r k, k + r = cd_ec (x_builtKinds b) → wX_listEdges_37 post (wX_listEdges_7 post (d + 1)) (nI b) (nI (cd_ec (x_builtKinds b))) (r + 1) (nI k) x_blocks (nI nb) (nI (cd_fs x_builtKinds b + k)) x_paths x_runX x_runY x_runDone x_ops x_operands x_kinds x_targets x_builtOps x_builtOperands x_builtKinds (cd_fo x_firstEdge 0 (b + 1) (fun c => nI (cd_fs x_builtKinds c))) (cd_fo x_edgeFrom 0 (cd_fs x_builtKinds b + k) (cd_eF x_builtKinds nb)) (cd_fo x_edgeExit 0 (cd_fs x_builtKinds b + k) (cd_eE x_builtKinds nb)) (cd_fo x_edgeTo 0 (cd_fs x_builtKinds b + k) (cd_eT x_builtKinds x_targets nb)) (cd_fo x_edgeWeight 0 (cd_fs x_builtKinds b + k) (fun _ => 0)) x_inTree (cd_fo x_isBack 0 (cd_fs x_builtKinds b + k) (fun _ => 0)) x_beginsPaths x_firstPath x_pathsFrom (cd_fo x_pathsBefore 0 (cd_fs x_builtKinds b + k) (fun _ => 0)) x_counts x_dumped x_dumpKept x_looked x_joined x_met x_nextExit x_way := by
        intro r
        induction r with
        | zero =>
          intro k hk
          have : k = cd_ec (x_builtKinds b) := by omega
          subst this
          exact pk_le _ _ (fun _ => nm_r (nI_1 b) (ih (b + 1) (by omega))) (fun h => absurd h (by omega)) rfl rfl (by omega) (by omega)
        | succ r ih2 =>
          intro k hk
          have c : nI b * 3 + nI k = nI (3 * b + k) := by rw [show (3 : Int32) = nI 3 from rfl, pk_mul, nI_add, Nat.mul_comm]
          have hr := cd_ec_r (x_builtKinds b)
          refine pk_le (cd_ec (x_builtKinds b)) k (fun h => absurd h (by omega)) (fun _ => ⟨pk_in (3 * b + k) 36 (by omega) c, ?_⟩)
          rw [c, cd_cl (by omega)]
          exact cd_xapp (by omega) (cd_eFv (by omega) (by omega)).symm (cd_eEv (by omega) (by omega)).symm (cd_eTv (by omega) (by omega)).symm (nm_r (nI_1 k) (ih2 (k + 1) (by omega)))
      exact K (cd_ec (x_builtKinds b)) 0 (by omega)
  exact Exists.intro (nb + 1) (H nb 0 (by omega))
theorem cd_yapp {post : SY → Prop} {nb b b2 m : Nat} {kd tg : Nat → Int32} {p0 p1 p2 : Int32} (hm : m < 37) (h0 : p0 = cd_eF kd nb m) (h1 : p1 = cd_eE kd nb m) (h2 : p2 = cd_eT kd tg nb m) (hp : post ((nI nb), (nI nb), (nI (m + 1)), y_paths, y_many, y_lastX, y_lastY, y_lastBlocks, (cd_fo y_op 12 (b2) y_op), (cd_fo y_number 12 (b2) y_number), (cd_fo y_kind 12 (b2) y_kind), y_target, (cd_fo y_from 0 (m + 1) (cd_eF kd nb)), (cd_fo y_to 0 (m + 1) (cd_eT kd tg nb)), (cd_fo y_exit 0 (m + 1) (cd_eE kd nb)), (cd_fo y_weight 0 (m + 1) (fun _ => 0)), (cd_fo y_firstEdge 0 (b) (fun c => nI (cd_fs kd c))), y_tree, y_back, y_row, y_length, y_gone, y_done, y_went, y_cut, y_kept, y_mark, y_way, y_tried, y_stack)) : wpY_addEdge post ((nI nb), (nI nb), (nI (m)), y_paths, y_many, y_lastX, y_lastY, y_lastBlocks, (cd_fo y_op 12 (b2) y_op), (cd_fo y_number 12 (b2) y_number), (cd_fo y_kind 12 (b2) y_kind), y_target, (cd_fo y_from 0 (m) (cd_eF kd nb)), (cd_fo y_to 0 (m) (cd_eT kd tg nb)), (cd_fo y_exit 0 (m) (cd_eE kd nb)), (cd_fo y_weight 0 (m) (fun _ => 0)), (cd_fo y_firstEdge 0 (b) (fun c => nI (cd_fs kd c))), y_tree, y_back, y_row, y_length, y_gone, y_done, y_went, y_cut, y_kept, y_mark, y_way, y_tried, y_stack) p0 p1 p2 :=
  have i : vp_in (nI m) 37 := pk_in m 37 hm
  ⟨i, nm_r (cd_fo_z (by omega) h0) ⟨i, nm_r (cd_fo_z (by omega) h1) ⟨i, nm_r (cd_fo_z (by omega) h2) ⟨i, nm_r (cd_fo_z (by omega) rfl) (nm_r (nI_1 m) hp)⟩⟩⟩⟩
theorem cd_ylist {post : Int32 → SY → Prop} {nb : Nat} {ops operands kd kd0 tg : Nat → Int32} (hD : cd_D nb ops operands kd0 tg y_op y_number y_kind y_target) (hkk : ∀ b, b < nb → kd b = kd0 b)
    (hp : wpY_findBack (fun u => wpY_findPaths (fun u => wpY_renew (fun u => match u with | (u_made, u_blocks, u_edges, u_paths, u_many, u_lastX, u_lastY, u_lastBlocks, u_op, u_number, u_kind, u_target, u_from, u_to, u_exit, u_weight, u_firstEdge, u_tree, u_back, u_row, u_length, u_gone, u_done, u_went, u_cut, u_kept, u_mark, u_way, u_tried, u_stack) => post u_edges (u_made, u_blocks, u_edges, u_paths, u_many, u_lastX, u_lastY, u_lastBlocks, u_op, u_number, u_kind, u_target, u_from, u_to, u_exit, u_weight, u_firstEdge, u_tree, u_back, u_row, u_length, u_gone, u_done, u_went, u_cut, u_kept, u_mark, u_way, u_tried, u_stack)) u) u) ((nI nb), (nI nb), (nI (cd_fs kd nb + 1)), y_paths, y_many, 0, 0, 0, (cd_fo y_op 12 (nb) y_op), (cd_fo y_number 12 (nb) y_number), (cd_fo y_kind 12 (nb) y_kind), y_target, (cd_fo y_from 0 (cd_fs kd nb + 1) (cd_eF kd nb)), (cd_fo y_to 0 (cd_fs kd nb + 1) (cd_eT kd tg nb)), (cd_fo y_exit 0 (cd_fs kd nb + 1) (cd_eE kd nb)), (cd_fo y_weight 0 (cd_fs kd nb + 1) (fun _ => 0)), (cd_fo y_firstEdge 0 (nb) (fun c => nI (cd_fs kd c))), y_tree, y_back, y_row, y_length, y_gone, y_done, y_went, y_cut, y_kept, y_mark, y_way, y_tried, y_stack)) : ∃ n24, wY_build_24 post n24 0 (nI nb) (nI nb) 0 y_paths y_many y_lastX y_lastY y_lastBlocks y_op y_number y_kind y_target y_from y_to y_exit y_weight y_firstEdge y_tree y_back y_row y_length y_gone y_done y_went y_cut y_kept y_mark y_way y_tried y_stack := by
  have hnb := hD.1
  have hfs := (cd_fs_b kd nb).2
  have H : ∀ d b, b + d = nb → wY_build_24 post (d + 1) (nI b) (nI nb) (nI nb) (nI (cd_fs kd b)) y_paths y_many y_lastX y_lastY y_lastBlocks (cd_fo y_op 12 (b) y_op) (cd_fo y_number 12 (b) y_number) (cd_fo y_kind 12 (b) y_kind) y_target (cd_fo y_from 0 (cd_fs kd b) (cd_eF kd nb)) (cd_fo y_to 0 (cd_fs kd b) (cd_eT kd tg nb)) (cd_fo y_exit 0 (cd_fs kd b) (cd_eE kd nb)) (cd_fo y_weight 0 (cd_fs kd b) (fun _ => 0)) (cd_fo y_firstEdge 0 (b) (fun c => nI (cd_fs kd c))) y_tree y_back y_row y_length y_gone y_done y_went y_cut y_kept y_mark y_way y_tried y_stack := by
    intro d
    induction d with
    | zero =>
      intro b hb
      have : b = nb := by omega
      subst this
      refine pk_le b b (fun _ => cd_yapp (by omega) cd_eFn.symm cd_eEn.symm cd_eTn.symm ?_) (fun h => absurd h (by omega))
      exact hp
    | succ d ih =>
      intro b hb
      have hlt := cd_fs_lt (kd := kd) (b := b) (c := nb) (by omega)
      obtain ⟨d1, d2, d3⟩ := hD.2.2 b (by omega)
      obtain ⟨f1, f2, f3, f4, f5⟩ := hD.2.1 b (by omega)
      rw [← hkk b (by omega)] at d1 d2 d3 f3
      have c12 : (12 : Int32) + nI b = nI (12 + b) := nI_add 12 b
      have hr := cd_ec_r (kd b)
      refine pk_le nb b (fun h => absurd h (by omega)) (fun _ => ⟨pk_in b 24 (by omega), pk_in (12 + b) 24 (by omega) c12, nm_r (cd_fo_u c12 (by omega) (by rw [cd_cl (by omega), cd_fo_out (by omega)])) ⟨pk_in b 24 (by omega), pk_in (12 + b) 24 (by omega) c12, nm_r (cd_fo_u c12 (by omega) (by rw [cd_cl (by omega), cd_fo_out (by omega)])) ⟨pk_in b 24 (by omega), pk_in (12 + b) 24 (by omega) c12, nm_r (cd_fo_u c12 (by omega) (by rw [cd_cl (by omega), cd_fo_out (by omega)])) ⟨pk_in b 13 (by omega), nm_r (cd_fo_z (by omega) rfl) ⟨cd_ec (kd b) + 1, ?_⟩⟩⟩⟩⟩)
      have K : ∀ r k, k + r = cd_ec (kd b) → wY_build_89 post (wY_build_24 post (d + 1)) (nI b) (r + 1) (nI k) (nI nb) (nI nb) (nI (cd_fs kd b + k)) y_paths y_many y_lastX y_lastY y_lastBlocks (cd_fo y_op 12 (b + 1) y_op) (cd_fo y_number 12 (b + 1) y_number) (cd_fo y_kind 12 (b + 1) y_kind) y_target (cd_fo y_from 0 (cd_fs kd b + k) (cd_eF kd nb)) (cd_fo y_to 0 (cd_fs kd b + k) (cd_eT kd tg nb)) (cd_fo y_exit 0 (cd_fs kd b + k) (cd_eE kd nb)) (cd_fo y_weight 0 (cd_fs kd b + k) (fun _ => 0)) (cd_fo y_firstEdge 0 (b + 1) (fun c => nI (cd_fs kd c))) y_tree y_back y_row y_length y_gone y_done y_went y_cut y_kept y_mark y_way y_tried y_stack := by
        intro r
        induction r with
        | zero =>
          intro k hk
          have : k = cd_ec (kd b) := by omega
          subst this
          refine ⟨pk_in b 24 (by omega), ?_⟩
          rw [cd_cl (by omega), cd_fo_out (by omega), f3]
          exact cd_yec d1 (pk_le _ _ (fun _ => nm_r (nI_1 b) (ih (b + 1) (by omega))) (fun h => absurd h (by omega)) rfl rfl (by omega) (by omega))
        | succ r ih2 =>
          intro k hk
          have c : 3 * nI b + nI k = nI (3 * b + k) := by rw [show (3 : Int32) = nI 3 from rfl, pk_mul, nI_add]
          refine ⟨pk_in b 24 (by omega), ?_⟩
          rw [cd_cl (by omega), cd_fo_out (by omega), f3]
          refine cd_yec d1 (pk_le (cd_ec (kd b)) k (fun h => absurd h (by omega)) (fun _ => ⟨pk_in b 24 (by omega), br_c (fun hz => ?_) (fun hz => ⟨pk_in (3 * b + k) 72 (by omega) c, ?_⟩)⟩))
          · have he : cd_ec (kd b) = 1 := by rw [hz]; decide
            have hk0 : k = 0 := by omega
            subst hk0
            exact cd_yapp (by omega) (cd_eFv (by omega) (by omega)).symm (cd_eEv (by omega) (by omega)).symm ((cd_eTv (by omega) (by omega)).trans (d2 hz)).symm (nm_r (nI_1 0) (ih2 1 (by omega)))
          · rw [c, cd_cl (by omega)]
            have eY : y_target (3 * b + k) = tg (3 * b + k) := by
              by_cases k0 : k = 0
              · subst k0; exact (d3 hz).1
              · by_cases k1 : k = 1
                · subst k1; exact f4
                · have : k = 2 := by omega
                  subst this; exact f5
            exact cd_yapp (by omega) (cd_eFv (by omega) (by omega)).symm (cd_eEv (by omega) (by omega)).symm ((cd_eTv (by omega) (by omega)).trans eY.symm).symm (nm_r (nI_1 k) (ih2 (k + 1) (by omega)))
      exact K (cd_ec (kd b)) 0 (by omega)
  exact Exists.intro (nb + 1) (H nb 0 (by omega))
end
end
section
def cd_fu (f : Nat → Nat) (k v : Nat) : Nat → Nat := fun j => if j = k then v else f j
theorem cd_fus {f : Nat → Nat} {k v : Nat} : cd_fu f k v k = v := if_pos rfl
theorem cd_fun {f : Nat → Nat} {k v j : Nat} (h : j ≠ k) : cd_fu f k v j = f j := if_neg h
/-- an exit that was looked at -/
def cd_lo (nb : Nat) (to ib : Nat → Int32) (m : Nat → Nat) (e : Nat) (Q : Nat → Prop) : Prop := to e = -1 ∨ ∃ t : Nat, t < nb ∧ to e = nI t ∧ m t ≠ 0 ∧ (ib e = 0 → Q t)
/-- the walk's state: w the way (d long), m met, x next exits, rk ranks of the c left, G their numbers of paths -/
def cd_XI (nb d c : Nat) (bk to ib pf pb : Nat → Int32) (w m x rk G : Nat → Nat) : Prop :=
  (∀ i, i < d → w i < nb ∧ m (w i) = 1) ∧ (∀ i j, i < d → j < d → w i = w j → i = j) ∧ (∀ b, b < nb → m b = 1 → ∃ i, i < d ∧ w i = b) ∧
  (∀ b, b < nb → m b ≤ 2 ∧ x b ≤ cd_ec (bk b) ∧ (m b = 0 → x b = 0) ∧ (m b = 2 → x b = cd_ec (bk b))) ∧
  (c + d + cd_sm (fun b => if m b = 0 then 1 else 0) nb ≤ nb) ∧
  (∀ i, i < d → ∀ k, k < x (w i) → cd_lo nb to ib m (cd_fs bk (w i) + k) (fun t => m t = 2 ∨ (i + 1 < d ∧ k + 1 = x (w i) ∧ t = w (i + 1)))) ∧
  (∀ b, b < nb → m b = 2 → rk b < c ∧ ∀ k, k < cd_ec (bk b) → cd_lo nb to ib m (cd_fs bk b + k) (fun t => m t = 2 ∧ rk t < rk b)) ∧
  (∀ b, b < nb → ∀ k, x b ≤ k → k < cd_ec (bk b) → ib (cd_fs bk b + k) = 0) ∧
  (∀ b, b < nb → m b = 2 → pf b = nI (G b) ∧ G b = cd_sm (cd_wt bk to ib G b) (cd_ec (bk b)) ∧ G b ≤ 3 ^ (rk b + 1) ∧ ∀ k, k < cd_ec (bk b) → pb (cd_fs bk b + k) = nI (cd_sm (cd_wt bk to ib G b) k)) ∧
  m 0 ≠ 0 ∧ (∀ b, b < nb → ∀ k, k < cd_ec (bk b) → to (cd_fs bk b + k) = -1 → ib (cd_fs bk b + k) = 0)
/-- what is left to do -/
def cd_re (nb : Nat) (bk : Nat → Int32) (m x : Nat → Nat) : Nat := cd_sm (fun b => if m b = 2 then 0 else 1 + cd_ec (bk b) - x b) nb
theorem cd_wt_c {bk to ib ib' : Nat → Int32} {G G' : Nat → Nat} {b k : Nat} (h1 : ib' (cd_fs bk b + k) = ib (cd_fs bk b + k)) (h2 : ib (cd_fs bk b + k) = 0 → ¬ to (cd_fs bk b + k) = -1 → G' (to (cd_fs bk b + k)).toNatClampNeg = G (to (cd_fs bk b + k)).toNatClampNeg) : cd_wt bk to ib' G' b k = cd_wt bk to ib G b k := by
  unfold cd_wt
  rw [h1]
  by_cases g : ib (cd_fs bk b + k) = 0 ∧ ¬ to (cd_fs bk b + k) = -1
  · rw [if_pos g, if_pos g, h2 g.1 g.2]
  · rw [if_neg g, if_neg g]
/-- a block is left -/
theorem cd_XI_leave {nb d c : Nat} {bk to ib pf pb : Nat → Int32} {w m x rk G : Nat → Nat} (hnb : nb ≤ 12) (h : cd_XI nb (d + 1) c bk to ib pf pb w m x rk G) (hx : x (w d) = cd_ec (bk (w d))) :
    cd_XI nb d (c + 1) bk to ib (upd pf (w d) (nI (cd_sm (cd_wt bk to ib G (w d)) (cd_ec (bk (w d)))))) (cd_fo pb (cd_fs bk (w d)) (cd_ec (bk (w d))) (fun k => nI (cd_sm (cd_wt bk to ib G (w d)) k))) w (cd_fu m (w d) 2) x (cd_fu rk (w d) c) (cd_fu G (w d) (cd_sm (cd_wt bk to ib G (w d)) (cd_ec (bk (w d)))))
    ∧ cd_re nb bk m x = cd_re nb bk (cd_fu m (w d) 2) x + 1
    ∧ (∀ k, k < cd_ec (bk (w d)) → ¬ cd_en ib to (cd_fs bk (w d) + k) → ∃ t : Nat, t < nb ∧ to (cd_fs bk (w d) + k) = nI t ∧ pf t = nI (G t)) := by
  obtain ⟨h1, h2, h3, h4, h5, h6, h7, h8, h9, h10, h11⟩ := h
  obtain ⟨hb, hm⟩ := h1 d (by omega)
  have hwd : ∀ i, i < d → w i ≠ w d := fun i hi e => by have := h2 i d (by omega) (by omega) e; omega
  have hne2 : ∀ t, m t = 2 → t ≠ w d := fun t ht e => by rw [e, hm] at ht; omega
  have hlk : ∀ k, k < cd_ec (bk (w d)) → cd_lo nb to ib m (cd_fs bk (w d) + k) (fun t => m t = 2) := by
    intro k hk
    rcases h6 d (by omega) k (by omega) with g | ⟨t, t1, t2, t3, t4⟩
    · exact Or.inl g
    · refine Or.inr ⟨t, t1, t2, t3, fun z => ?_⟩
      rcases t4 z with g | g
      · exact g
      · omega
  generalize hbd : w d = b at *
  have hmb : ∀ t, cd_fu m b 2 t = 0 ↔ m t = 0 := by
    intro t
    by_cases e : t = b
    · subst e; rw [cd_fus]; omega
    · rw [cd_fun e]
  have hm2 : ∀ t, m t = 2 → cd_fu m b 2 t = 2 := by
    intro t ht
    rw [cd_fun (hne2 t ht)]; exact ht
  have hG2 : ∀ t, m t = 2 → cd_fu G b (cd_sm (cd_wt bk to ib G b) (cd_ec (bk b))) t = G t := fun t ht => cd_fun (hne2 t ht)
  have hr2 : ∀ t, m t = 2 → cd_fu rk b c t = rk t := fun t ht => cd_fun (hne2 t ht)
  have hwt : ∀ a, (∀ k, k < cd_ec (bk a) → cd_lo nb to ib m (cd_fs bk a + k) (fun t => m t = 2)) → ∀ k, k < cd_ec (bk a) → cd_wt bk to ib (cd_fu G b (cd_sm (cd_wt bk to ib G b) (cd_ec (bk b)))) a k = cd_wt bk to ib G a k := by
    intro a ha k hk
    refine cd_wt_c rfl (fun z1 z2 => ?_)
    obtain ⟨t, t1, t2, t3, t4⟩ := (ha k hk).resolve_left z2
    rw [t2, cd_cl (by omega)]
    exact hG2 t (t4 z1)
  refine ⟨⟨fun i hi => ?_, fun i j hi hj => h2 i j (by omega) (by omega), fun a ha hma => ?_, fun a ha => ?_, ?_, fun i hi k hk => ?_, fun a ha hma => ?_, h8, fun a ha hma => ?_, fun z => h10 ((hmb 0).mp z), h11⟩, ?_, fun k hk hen => ?_⟩
  · rw [cd_fun (hwd i hi)]
    exact h1 i (by omega)
  · by_cases e : a = b
    · subst e; rw [cd_fus] at hma; omega
    · rw [cd_fun e] at hma
      obtain ⟨i, hi, e2⟩ := h3 a ha hma
      refine ⟨i, ?_, e2⟩
      by_cases g : i = d
      · subst g; exact absurd (e2.symm.trans hbd) e
      · omega
  · obtain ⟨g1, g2, g3, g4⟩ := h4 a ha
    refine ⟨?_, g2, fun z => g3 ((hmb a).mp z), fun z => ?_⟩
    · by_cases e : a = b
      · subst e; rw [cd_fus]; omega
      · rw [cd_fun e]; exact g1
    · by_cases e : a = b
      · subst e; exact hx
      · rw [cd_fun e] at z; exact g4 z
  · have : cd_sm (fun a => if cd_fu m b 2 a = 0 then 1 else 0) nb = cd_sm (fun a => if m a = 0 then 1 else 0) nb := cd_sm_c nb (fun i _ => by
      show (if cd_fu m b 2 i = 0 then 1 else 0) = (if m i = 0 then 1 else 0)
      by_cases g : m i = 0
      · rw [if_pos g, if_pos ((hmb i).mpr g)]
      · rw [if_neg g, if_neg (fun z => g ((hmb i).mp z))])
    rw [this]
    omega
  · rcases h6 i (by omega) k hk with g | ⟨t, t1, t2, t3, t4⟩
    · exact Or.inl g
    · refine Or.inr ⟨t, t1, t2, fun z => t3 ((hmb t).mp z), fun z => ?_⟩
      rcases t4 z with g | ⟨g1, g2, g3⟩
      · exact Or.inl (hm2 t g)
      · by_cases e : i + 1 = d
        · refine Or.inl ?_
          rw [g3, e, hbd, cd_fus]
        · exact Or.inr ⟨by omega, g2, g3⟩
  · by_cases e : a = b
    · subst e
      rw [cd_fus]
      refine ⟨by omega, fun k hk => ?_⟩
      rcases hlk k hk with g | ⟨t, t1, t2, t3, t4⟩
      · exact Or.inl g
      · refine Or.inr ⟨t, t1, t2, fun z => t3 ((hmb t).mp z), fun z => ⟨hm2 t (t4 z), ?_⟩⟩
        rw [hr2 t (t4 z)]
        exact (h7 t t1 (t4 z)).1
    · rw [cd_fun e] at hma
      obtain ⟨g1, g2⟩ := h7 a ha hma
      rw [cd_fun e]
      refine ⟨by omega, fun k hk => ?_⟩
      rcases g2 k hk with g | ⟨t, t1, t2, t3, t4⟩
      · exact Or.inl g
      · refine Or.inr ⟨t, t1, t2, fun z => t3 ((hmb t).mp z), fun z => ⟨hm2 t (t4 z).1, ?_⟩⟩
        rw [hr2 t (t4 z).1]
        exact (t4 z).2
  · by_cases e : a = b
    · subst e
      have hw2 := hwt a hlk
      rw [pk_us, cd_fus, cd_fus]
      have e1 : ∀ k, k ≤ cd_ec (bk a) → cd_sm (cd_wt bk to ib (cd_fu G a (cd_sm (cd_wt bk to ib G a) (cd_ec (bk a)))) a) k = cd_sm (cd_wt bk to ib G a) k := fun k hk => cd_sm_c k (fun i hi => hw2 i (by omega))
      refine ⟨rfl, (e1 _ (Nat.le_refl _)).symm, ?_, fun k hk => ?_⟩
      · have hle := cd_sm_le (f := cd_wt bk to ib G a) (c := 3 ^ c) (cd_ec (bk a)) (fun k hk => by
          by_cases g : ib (cd_fs bk a + k) = 0 ∧ ¬ to (cd_fs bk a + k) = -1
          · unfold cd_wt
            rw [if_pos g]
            obtain ⟨t, t1, t2, t3, t4⟩ := (hlk k hk).resolve_left g.2
            rw [t2, cd_cl (by omega)]
            refine Nat.le_trans (h9 t t1 (t4 g.1)).2.2.1 ?_
            have := (h7 t t1 (t4 g.1)).1
            exact Nat.pow_le_pow_right (by omega) (by omega)
          · unfold cd_wt
            rw [if_neg g]
            exact Nat.one_le_pow _ _ (by omega))
        have hec := (cd_ec_r (bk a)).2
        have : cd_ec (bk a) * 3 ^ c ≤ 3 * 3 ^ c := Nat.mul_le_mul_right _ hec
        rw [Nat.pow_succ]
        omega
      · rw [cd_fo_k hk, e1 k (by omega)]
    · rw [cd_fun e] at hma
      obtain ⟨n1, n2, n3, n4⟩ := h9 a ha hma
      have hlka : ∀ k, k < cd_ec (bk a) → cd_lo nb to ib m (cd_fs bk a + k) (fun t => m t = 2) := by
        intro k hk
        rcases (h7 a ha hma).2 k hk with g | ⟨t, t1, t2, t3, t4⟩
        · exact Or.inl g
        · exact Or.inr ⟨t, t1, t2, t3, fun z => (t4 z).1⟩
      have hw2 := hwt a hlka
      have e1 : ∀ k, k ≤ cd_ec (bk a) → cd_sm (cd_wt bk to ib (cd_fu G b (cd_sm (cd_wt bk to ib G b) (cd_ec (bk b)))) a) k = cd_sm (cd_wt bk to ib G a) k := fun k hk => cd_sm_c k (fun i hi => hw2 i (by omega))
      rw [pk_un e, cd_fun e, cd_fun e, e1 _ (Nat.le_refl _)]
      refine ⟨n1, n2, n3, fun k hk => ?_⟩
      rw [e1 k (by omega), cd_fo_out ?_]
      · exact n4 k hk
      · by_cases g : a < b
        · have := cd_fs_lt (kd := bk) g
          omega
        · have := cd_fs_lt (kd := bk) (b := b) (c := a) (by omega)
          omega
  · have := cd_sm_u (f := fun a => if m a = 2 then 0 else 1 + cd_ec (bk a) - x a) (g := fun a => if cd_fu m b 2 a = 2 then 0 else 1 + cd_ec (bk a) - x a) (j := b) nb hb (fun i _ hi => by
      show (if cd_fu m b 2 i = 2 then 0 else 1 + cd_ec (bk i) - x i) = (if m i = 2 then 0 else 1 + cd_ec (bk i) - x i)
      rw [cd_fun hi])
    rw [cd_fus, if_pos rfl, if_neg (by omega)] at this
    unfold cd_re
    omega
  · have z1 : ib (cd_fs bk b + k) = 0 := Decidable.byContradiction (fun z => hen (Or.inl z))
    have z2 : ¬ to (cd_fs bk b + k) = -1 := fun z => hen (Or.inr z)
    obtain ⟨t, t1, t2, t3, t4⟩ := (hlk k hk).resolve_left z2
    exact ⟨t, t1, t2, (h9 t t1 (t4 z1)).1⟩
/-- an exit is looked at that leads to no new block -/
theorem cd_XI_look {nb d c : Nat} {bk to ib pf pb : Nat → Int32} {w m x rk G : Nat → Nat} {v : Int32} (hnb : nb ≤ 12) (h : cd_XI nb (d + 1) c bk to ib pf pb w m x rk G) (hx : x (w d) < cd_ec (bk (w d)))
    (hv : cd_lo nb to (fun _ => v) m (cd_fs bk (w d) + x (w d)) (fun t => m t = 2)) (hv0 : to (cd_fs bk (w d) + x (w d)) = -1 → v = 0) :
    cd_XI nb (d + 1) c bk to (upd ib (cd_fs bk (w d) + x (w d)) v) pf pb w m (cd_fu x (w d) (x (w d) + 1)) rk G ∧ cd_re nb bk m x = cd_re nb bk m (cd_fu x (w d) (x (w d) + 1)) + 1 := by
  obtain ⟨h1, h2, h3, h4, h5, h6, h7, h8, h9, h10, h11⟩ := h
  obtain ⟨hb, hm⟩ := h1 d (by omega)
  have hwd : ∀ i, i < d → w i ≠ w d := fun i hi e => by have := h2 i d (by omega) (by omega) e; omega
  have hne : ∀ a k, k < cd_ec (bk a) → (a = w d → k ≠ x (w d)) → cd_fs bk a + k ≠ cd_fs bk (w d) + x (w d) := by
    intro a k hk ha e
    obtain ⟨g1, g2⟩ := cd_fs_inj hk hx e
    exact ha g1 g2
  have hne2 : ∀ t, m t = 2 → t ≠ w d := fun t ht e => by rw [e, hm] at ht; omega
  have hxw : ∀ i, i < d + 1 → x (w i) ≤ cd_ec (bk (w i)) := fun i hi => (h4 (w i) (h1 i hi).1).2.1
  refine ⟨⟨h1, h2, h3, fun a ha => ?_, h5, fun i hi k hk => ?_, fun a ha hma => ⟨(h7 a ha hma).1, fun k hk => ?_⟩, fun a ha k hk1 hk2 => ?_, fun a ha hma => ?_, h10, fun a ha k hk hz => ?_⟩, ?_⟩
  · obtain ⟨g1, g2, g3, g4⟩ := h4 a ha
    by_cases e : a = w d
    · subst e
      rw [cd_fus]
      exact ⟨g1, by omega, fun z => by omega, fun z => by omega⟩
    · rw [cd_fun e]; exact ⟨g1, g2, g3, g4⟩
  · by_cases e : i = d
    · subst e
      rw [cd_fus] at hk
      by_cases g : k = x (w i)
      · subst g
        rcases hv with g | ⟨t, t1, t2, t3, t4⟩
        · exact Or.inl g
        · refine Or.inr ⟨t, t1, t2, t3, fun z => Or.inl (t4 ?_)⟩
          rw [pk_us] at z
          exact z
      · rcases h6 i hi k (by omega) with g2 | ⟨t, t1, t2, t3, t4⟩
        · exact Or.inl g2
        · refine Or.inr ⟨t, t1, t2, t3, fun z => ?_⟩
          rw [pk_un (hne (w i) k (by omega) (fun _ => g))] at z
          rcases t4 z with g3 | g3
          · exact Or.inl g3
          · omega
    · have e2 := hwd i (by omega)
      rw [cd_fun e2] at hk
      have := hxw i hi
      rcases h6 i hi k hk with g2 | ⟨t, t1, t2, t3, t4⟩
      · exact Or.inl g2
      · refine Or.inr ⟨t, t1, t2, t3, fun z => ?_⟩
        rw [pk_un (hne (w i) k (by omega) (fun g => absurd g e2))] at z
        rw [cd_fun e2]
        exact t4 z
  · have e := hne2 a hma
    rcases (h7 a ha hma).2 k hk with g | ⟨t, t1, t2, t3, t4⟩
    · exact Or.inl g
    · refine Or.inr ⟨t, t1, t2, t3, fun z => ?_⟩
      rw [pk_un (hne a k hk (fun g => absurd g e))] at z
      exact t4 z
  · by_cases e : a = w d
    · subst e
      rw [cd_fus] at hk1
      rw [pk_un (hne (w d) k hk2 (fun _ => by omega))]
      exact h8 (w d) ha k (by omega) hk2
    · rw [cd_fun e] at hk1
      rw [pk_un (hne a k hk2 (fun g => absurd g e))]
      exact h8 a ha k hk1 hk2
  · have e := hne2 a hma
    obtain ⟨n1, n2, n3, n4⟩ := h9 a ha hma
    have e1 : ∀ k, k ≤ cd_ec (bk a) → cd_sm (cd_wt bk to (upd ib (cd_fs bk (w d) + x (w d)) v) G a) k = cd_sm (cd_wt bk to ib G a) k := fun k hk => cd_sm_c k (fun i hi => cd_wt_c (pk_un (hne a i (by omega) (fun g => absurd g e))) (fun _ _ => rfl))
    rw [e1 _ (Nat.le_refl _)]
    exact ⟨n1, n2, n3, fun k hk => by rw [e1 k (by omega)]; exact n4 k hk⟩
  · by_cases g : cd_fs bk a + k = cd_fs bk (w d) + x (w d)
    · rw [g] at hz
      rw [g, pk_us]; exact hv0 hz
    · rw [pk_un g]; exact h11 a ha k hk hz
  · have := cd_sm_u (f := fun a => if m a = 2 then 0 else 1 + cd_ec (bk a) - x a) (g := fun a => if m a = 2 then 0 else 1 + cd_ec (bk a) - cd_fu x (w d) (x (w d) + 1) a) (j := w d) nb hb (fun i _ hi => by
      show (if m i = 2 then 0 else 1 + cd_ec (bk i) - cd_fu x (w d) (x (w d) + 1) i) = (if m i = 2 then 0 else 1 + cd_ec (bk i) - x i)
      rw [cd_fun hi])
    rw [cd_fus, if_neg (by omega), if_neg (by omega)] at this
    unfold cd_re
    omega
/-- an exit is looked at that leads to a new block -/
theorem cd_XI_push {nb d c t : Nat} {bk to ib pf pb : Nat → Int32} {w m x rk G : Nat → Nat} (hnb : nb ≤ 12) (h : cd_XI nb (d + 1) c bk to ib pf pb w m x rk G) (hx : x (w d) < cd_ec (bk (w d)))
    (ht : t < nb) (hte : to (cd_fs bk (w d) + x (w d)) = nI t) (hmt : m t = 0) :
    cd_XI nb (d + 1 + 1) c bk to ib pf pb (cd_fu w (d + 1) t) (cd_fu m t 1) (cd_fu x (w d) (x (w d) + 1)) rk G ∧ cd_re nb bk m x = cd_re nb bk (cd_fu m t 1) (cd_fu x (w d) (x (w d) + 1)) + 1 ∧ d + 1 < nb := by
  obtain ⟨h1, h2, h3, h4, h5, h6, h7, h8, h9, h10, h11⟩ := h
  obtain ⟨hb, hm⟩ := h1 d (by omega)
  have htd : t ≠ w d := fun e => by rw [e, hm] at hmt; omega
  have hwd : ∀ i, i < d → w i ≠ w d := fun i hi e => by have := h2 i d (by omega) (by omega) e; omega
  have hwt : ∀ i, i < d + 1 → w i ≠ t := fun i hi e => by have := (h1 i hi).2; rw [e, hmt] at this; omega
  have hne2 : ∀ a, m a = 2 → a ≠ t := fun a ha e => by rw [e, hmt] at ha; omega
  have hwn : ∀ i, i < d + 1 → cd_fu w (d + 1) t i = w i := fun i hi => cd_fun (by omega)
  have hmne : ∀ a, m a ≠ 0 → cd_fu m t 1 a ≠ 0 := by
    intro a ha
    by_cases e : a = t
    · subst e; rw [cd_fus]; omega
    · rw [cd_fun e]; exact ha
  have hsum : cd_sm (fun b => if cd_fu m t 1 b = 0 then 1 else 0) nb + 1 = cd_sm (fun b => if m b = 0 then 1 else 0) nb := by
    have := cd_sm_u (f := fun b => if m b = 0 then 1 else 0) (g := fun b => if cd_fu m t 1 b = 0 then 1 else 0) (j := t) nb ht (fun i _ hi => by
      show (if cd_fu m t 1 i = 0 then 1 else 0) = (if m i = 0 then 1 else 0)
      rw [cd_fun hi])
    rw [cd_fus, if_pos hmt, if_neg (by decide)] at this
    omega
  refine ⟨⟨fun i hi => ?_, fun i j hi hj e => ?_, fun a ha hma => ?_, fun a ha => ?_, by omega, fun i hi k hk => ?_, fun a ha hma => ?_, fun a ha k hk1 hk2 => ?_, fun a ha hma => ?_, hmne 0 h10, h11⟩, ?_, ?_⟩
  · by_cases e : i = d + 1
    · subst e; rw [cd_fus, cd_fus]; exact ⟨ht, rfl⟩
    · rw [hwn i (by omega), cd_fun (hwt i (by omega))]; exact h1 i (by omega)
  · by_cases e1 : i = d + 1
    · by_cases e2 : j = d + 1
      · omega
      · rw [e1, cd_fus, hwn j (by omega)] at e
        exact absurd e.symm (hwt j (by omega))
    · by_cases e2 : j = d + 1
      · rw [e2, cd_fus, hwn i (by omega)] at e
        exact absurd e (hwt i (by omega))
      · rw [hwn i (by omega), hwn j (by omega)] at e
        exact h2 i j (by omega) (by omega) e
  · by_cases e : a = t
    · exact ⟨d + 1, by omega, by rw [cd_fus]; exact e.symm⟩
    · rw [cd_fun e] at hma
      obtain ⟨i, hi, e2⟩ := h3 a ha hma
      exact ⟨i, by omega, by rw [hwn i hi]; exact e2⟩
  · obtain ⟨g1, g2, g3, g4⟩ := h4 a ha
    by_cases e : a = w d
    · subst e
      rw [cd_fus, cd_fun (fun z => htd z.symm)]
      exact ⟨g1, by omega, fun z => by omega, fun z => by omega⟩
    · rw [cd_fun (f := x) e]
      by_cases e2 : a = t
      · subst e2
        rw [cd_fus]
        exact ⟨by omega, g2, fun z => by omega, fun z => by omega⟩
      · rw [cd_fun e2]; exact ⟨g1, g2, g3, g4⟩
  · by_cases e : i = d + 1
    · subst e
      rw [cd_fus, cd_fun htd] at hk
      have := (h4 t ht).2.2.1 hmt
      omega
    · have hi' : i < d + 1 := by omega
      rw [hwn i hi'] at hk ⊢
      by_cases e2 : i = d
      · subst e2
        rw [cd_fus] at hk
        by_cases g : k = x (w i)
        · subst g
          refine Or.inr ⟨t, ht, hte, by rw [cd_fus]; omega, fun _ => Or.inr ⟨by omega, by rw [cd_fus], by rw [cd_fus]⟩⟩
        · rcases h6 i hi' k (by omega) with g2 | ⟨s, t1, t2, t3, t4⟩
          · exact Or.inl g2
          · refine Or.inr ⟨s, t1, t2, hmne s t3, fun z => ?_⟩
            rcases t4 z with g3 | g3
            · refine Or.inl ?_
              rw [cd_fun (hne2 s g3)]; exact g3
            · omega
      · have e3 := hwd i (by omega)
        rw [cd_fun e3] at hk
        rcases h6 i hi' k hk with g2 | ⟨s, t1, t2, t3, t4⟩
        · exact Or.inl g2
        · refine Or.inr ⟨s, t1, t2, hmne s t3, fun z => ?_⟩
          rcases t4 z with g3 | ⟨g3, g4, g5⟩
          · refine Or.inl ?_
            rw [cd_fun (hne2 s g3)]; exact g3
          · refine Or.inr ⟨by omega, ?_, ?_⟩
            · rw [cd_fun e3]; exact g4
            · rw [hwn (i + 1) (by omega)]; exact g5
  · have hma2 : m a = 2 := by
      by_cases e : a = t
      · subst e; rw [cd_fus] at hma; omega
      · rw [cd_fun e] at hma; exact hma
    refine ⟨(h7 a ha hma2).1, fun k hk => ?_⟩
    rcases (h7 a ha hma2).2 k hk with g | ⟨s, t1, t2, t3, t4⟩
    · exact Or.inl g
    · refine Or.inr ⟨s, t1, t2, hmne s t3, fun z => ⟨?_, (t4 z).2⟩⟩
      rw [cd_fun (hne2 s (t4 z).1)]; exact (t4 z).1
  · by_cases e : a = w d
    · subst e
      rw [cd_fus] at hk1
      exact h8 (w d) ha k (by omega) hk2
    · rw [cd_fun e] at hk1
      exact h8 a ha k hk1 hk2
  · have hma2 : m a = 2 := by
      by_cases e : a = t
      · subst e; rw [cd_fus] at hma; omega
      · rw [cd_fun e] at hma; exact hma
    exact h9 a ha hma2
  · have s1 := cd_sm_u (f := fun a => if m a = 2 then 0 else 1 + cd_ec (bk a) - x a) (g := fun a => if cd_fu m t 1 a = 2 then 0 else 1 + cd_ec (bk a) - cd_fu x (w d) (x (w d) + 1) a) (j := w d) nb hb (fun i _ hi => by
      show (if cd_fu m t 1 i = 2 then 0 else 1 + cd_ec (bk i) - cd_fu x (w d) (x (w d) + 1) i) = (if m i = 2 then 0 else 1 + cd_ec (bk i) - x i)
      rw [cd_fun hi]
      by_cases e : i = t
      · subst e; rw [cd_fus, if_neg (by omega), if_neg (by omega)]
      · rw [cd_fun e])
    rw [cd_fus, cd_fun (fun z => htd z.symm), if_neg (by omega), if_neg (by omega)] at s1
    unfold cd_re
    omega
  · omega
end
section
section
variable {x_blocks x_builtBlocks x_edges x_paths x_runX x_runY x_runDone : Int32} {x_ops x_operands x_kinds x_targets x_builtOps x_builtOperands x_builtKinds x_firstEdge x_edgeFrom x_edgeExit x_edgeTo x_edgeWeight x_inTree x_isBack x_beginsPaths x_firstPath x_pathsFrom x_pathsBefore x_counts x_dumped x_dumpKept x_looked x_joined x_met x_nextExit x_way : Nat → Int32} {y_made y_blocks y_edges y_paths y_many y_lastX y_lastY y_lastBlocks : Int32} {y_op y_number y_kind y_target y_from y_to y_exit y_weight y_firstEdge y_tree y_back y_row y_length y_gone y_done y_went y_cut y_kept y_mark y_way y_tried y_stack : Nat → Int32}
theorem cd_xcpf {post : SX → Prop} {nb b : Nat} {G : Nat → Nat} (hnb : nb ≤ 12) (hb : b < nb) (hfe : x_firstEdge b = nI (cd_fs x_builtKinds b))
    (hG : ∀ k, k < cd_ec (x_builtKinds b) → ¬ cd_en x_isBack x_edgeTo (cd_fs x_builtKinds b + k) → ∃ t : Nat, t < nb ∧ x_edgeTo (cd_fs x_builtKinds b + k) = nI t ∧ x_pathsFrom t = nI (G t))
    (hp : post (x_blocks, x_builtBlocks, x_edges, x_paths, x_runX, x_runY, x_runDone, x_ops, x_operands, x_kinds, x_targets, x_builtOps, x_builtOperands, x_builtKinds, x_firstEdge, x_edgeFrom, x_edgeExit, x_edgeTo, x_edgeWeight, x_inTree, x_isBack, x_beginsPaths, x_firstPath, (upd x_pathsFrom b (nI (cd_sm (cd_wt x_builtKinds x_edgeTo x_isBack G b) (cd_ec (x_builtKinds b))))), (cd_fo x_pathsBefore (cd_fs x_builtKinds b) (cd_ec (x_builtKinds b)) (fun k => nI (cd_sm (cd_wt x_builtKinds x_edgeTo x_isBack G b) k))), x_counts, x_dumped, x_dumpKept, x_looked, x_joined, x_met, x_nextExit, x_way)) : wpX_countPathsFrom post (x_blocks, x_builtBlocks, x_edges, x_paths, x_runX, x_runY, x_runDone, x_ops, x_operands, x_kinds, x_targets, x_builtOps, x_builtOperands, x_builtKinds, x_firstEdge, x_edgeFrom, x_edgeExit, x_edgeTo, x_edgeWeight, x_inTree, x_isBack, x_beginsPaths, x_firstPath, x_pathsFrom, x_pathsBefore, x_counts, x_dumped, x_dumpKept, x_looked, x_joined, x_met, x_nextExit, x_way) (nI b) := by
  have hfs := cd_fs_lt (kd := x_builtKinds) hb
  have hfb := (cd_fs_b x_builtKinds nb).2
  have cb := cd_cl (n := b) (by omega)
  unfold wpX_countPathsFrom
  dsimp only
  rw [cb]
  refine ⟨pk_in b 12 (by omega), pk_in b 12 (by omega), cd_xec (nm_r (e' := nI (cd_fs x_builtKinds b + cd_ec (x_builtKinds b))) (by rw [hfe, nI_add]) ⟨pk_in b 12 (by omega), nm_r hfe ?_⟩)⟩
  refine cd_loop (fun n k => wX_countPathsFrom_27 post (nI b) (nI (cd_fs x_builtKinds b + cd_ec (x_builtKinds b))) x_blocks x_builtBlocks x_edges x_paths x_runX x_runY x_runDone n (nI (cd_sm (cd_wt x_builtKinds x_edgeTo x_isBack G b) k)) (nI (cd_fs x_builtKinds b + k)) x_ops x_operands x_kinds x_targets x_builtOps x_builtOperands x_builtKinds x_firstEdge x_edgeFrom x_edgeExit x_edgeTo x_edgeWeight x_inTree x_isBack x_beginsPaths x_firstPath x_pathsFrom (cd_fo x_pathsBefore (cd_fs x_builtKinds b) k (fun k => nI (cd_sm (cd_wt x_builtKinds x_edgeTo x_isBack G b) k))) x_counts x_dumped x_dumpKept x_looked x_joined x_met x_nextExit x_way) (cd_ec (x_builtKinds b)) (fun n => ?_) (fun n k hk hn => ?_)
  · refine pk_le (cd_fs x_builtKinds b + cd_ec (x_builtKinds b)) (cd_fs x_builtKinds b + cd_ec (x_builtKinds b)) (fun _ => ⟨pk_in b 12 (by omega), ?_⟩) (fun h => absurd h (by omega))
    rw [cb]
    exact nm_e hp
  · refine pk_le (cd_fs x_builtKinds b + cd_ec (x_builtKinds b)) (cd_fs x_builtKinds b + k) (fun h => absurd h (by omega)) (fun _ => ⟨pk_in (cd_fs x_builtKinds b + k) 37 (by omega), nm_r (cd_fo_u rfl (by omega) rfl) (cd_xend rfl (by omega) (fun hen => br_f (by decide) (nm_r (e' := nI (cd_sm (cd_wt x_builtKinds x_edgeTo x_isBack G b) (k + 1))) ?_ (nm_r (nI_1 _) hn))) (fun hen => br_t rfl ⟨pk_in (cd_fs x_builtKinds b + k) 37 (by omega), ?_⟩))⟩)
    · show _ = nI (cd_sm _ k + cd_wt x_builtKinds x_edgeTo x_isBack G b k)
      rw [cd_wt1 hen]
      exact nI_1 _
    · obtain ⟨t, t1, t2, t3⟩ := hG k hk hen
      rw [cd_cl (by omega), t2]
      refine ⟨pk_in t 12 (by omega), nm_r (e' := nI (cd_sm (cd_wt x_builtKinds x_edgeTo x_isBack G b) (k + 1))) ?_ (nm_r (nI_1 _) hn)⟩
      show _ = nI (cd_sm _ k + cd_wt x_builtKinds x_edgeTo x_isBack G b k)
      have hw : cd_wt x_builtKinds x_edgeTo x_isBack G b k = G t := by
        unfold cd_wt
        rw [if_pos ⟨Decidable.byContradiction (fun z => hen (Or.inl z)), fun z => hen (Or.inr z)⟩, t2, cd_cl (by omega)]
      rw [hw, cd_cl (by omega), t3, nI_add]
theorem cd_xlne {post : Int32 → SX → Prop} {nb b x : Nat} (hnb : nb ≤ 12) (hb : b < nb) (hfe : x_firstEdge b = nI (cd_fs x_builtKinds b)) (hx : x < cd_ec (x_builtKinds b)) (hnx : x_nextExit b = nI x)
    (h0 : x_edgeTo (cd_fs x_builtKinds b + x) = -1 → post (-1) (x_blocks, x_builtBlocks, x_edges, x_paths, x_runX, x_runY, x_runDone, x_ops, x_operands, x_kinds, x_targets, x_builtOps, x_builtOperands, x_builtKinds, x_firstEdge, x_edgeFrom, x_edgeExit, x_edgeTo, x_edgeWeight, x_inTree, (upd x_isBack (cd_fs x_builtKinds b + x) 0), x_beginsPaths, x_firstPath, x_pathsFrom, x_pathsBefore, x_counts, x_dumped, x_dumpKept, x_looked, x_joined, x_met, (upd x_nextExit b (nI (x + 1))), x_way))
    (h1 : ∀ t, t < nb → x_edgeTo (cd_fs x_builtKinds b + x) = nI t → x_met t = 1 → post (nI t) (x_blocks, x_builtBlocks, x_edges, x_paths, x_runX, x_runY, x_runDone, x_ops, x_operands, x_kinds, x_targets, x_builtOps, x_builtOperands, x_builtKinds, x_firstEdge, x_edgeFrom, x_edgeExit, x_edgeTo, x_edgeWeight, x_inTree, (upd x_isBack (cd_fs x_builtKinds b + x) 1), x_beginsPaths, x_firstPath, x_pathsFrom, x_pathsBefore, x_counts, x_dumped, x_dumpKept, x_looked, x_joined, x_met, (upd x_nextExit b (nI (x + 1))), x_way))
    (h2 : ∀ t, t < nb → x_edgeTo (cd_fs x_builtKinds b + x) = nI t → ¬ x_met t = 1 → post (nI t) (x_blocks, x_builtBlocks, x_edges, x_paths, x_runX, x_runY, x_runDone, x_ops, x_operands, x_kinds, x_targets, x_builtOps, x_builtOperands, x_builtKinds, x_firstEdge, x_edgeFrom, x_edgeExit, x_edgeTo, x_edgeWeight, x_inTree, (upd x_isBack (cd_fs x_builtKinds b + x) 0), x_beginsPaths, x_firstPath, x_pathsFrom, x_pathsBefore, x_counts, x_dumped, x_dumpKept, x_looked, x_joined, x_met, (upd x_nextExit b (nI (x + 1))), x_way))
    (hto : x_edgeTo (cd_fs x_builtKinds b + x) = -1 ∨ ∃ t : Nat, t < nb ∧ x_edgeTo (cd_fs x_builtKinds b + x) = nI t) : wpX_lookAtNextExit post (x_blocks, x_builtBlocks, x_edges, x_paths, x_runX, x_runY, x_runDone, x_ops, x_operands, x_kinds, x_targets, x_builtOps, x_builtOperands, x_builtKinds, x_firstEdge, x_edgeFrom, x_edgeExit, x_edgeTo, x_edgeWeight, x_inTree, x_isBack, x_beginsPaths, x_firstPath, x_pathsFrom, x_pathsBefore, x_counts, x_dumped, x_dumpKept, x_looked, x_joined, x_met, x_nextExit, x_way) (nI b) := by
  have hfs := cd_fs_lt (kd := x_builtKinds) hb
  have hfb := (cd_fs_b x_builtKinds nb).2
  have cb := cd_cl (n := b) (by omega)
  have i := pk_in b 12 (by omega) (x := nI b)
  have ie : vp_in (nI (cd_fs x_builtKinds b + x)) 37 := pk_in (cd_fs x_builtKinds b + x) 37 (by omega)
  have ce := cd_cl (n := cd_fs x_builtKinds b + x) (by omega)
  unfold wpX_lookAtNextExit
  dsimp only
  rw [cb]
  refine ⟨i, i, nm_r (e' := nI (cd_fs x_builtKinds b + x)) (by rw [hfe, hnx, nI_add]) ⟨i, i, nm_r (e' := upd x_nextExit b (nI (x + 1))) (by rw [hnx, nI_1]) ⟨ie, ?_⟩⟩⟩
  rw [ce]
  refine nm_e (br_c (fun g => ⟨ie, nm_e ?_⟩) (fun g => ?_))
  · rw [g]; exact h0 g
  · obtain ⟨t, t1, t2⟩ := hto.resolve_left g
    rw [t2, cd_cl (by omega)]
    exact ⟨pk_in t 12 (by omega), br_c (fun z => ⟨ie, nm_e (h1 t t1 t2 z)⟩) (fun z => ⟨ie, nm_e (h2 t t1 t2 z)⟩)⟩
theorem cd_dfs {nb : Nat} (hnb : nb ≤ 12) (hnb0 : 0 < nb) (hfe : ∀ b, b < nb → x_firstEdge b = nI (cd_fs x_builtKinds b)) (hkd : ∀ b, b < nb → y_kind (12 + b) = x_builtKinds b ∧ ∃ k : Nat, k < 6 ∧ x_builtKinds b = nI k) (hto : ∀ e, e < cd_fs x_builtKinds nb + 1 → x_edgeTo e = -1 ∨ ∃ t : Nat, t < nb ∧ x_edgeTo e = nI t) :
    ∀ R d c s (w m x rk G : Nat → Nat) (ib pf pb met nx way : Nat → Int32) (post : SX → Prop), cd_XI nb d c x_builtKinds x_edgeTo ib pf pb w m x rk G → (∀ i, i < d → way i = nI (w i)) → (∀ b, b < nb → met b = nI (m b) ∧ nx b = nI (x b)) → cd_re nb x_builtKinds m x = R → s + R ≤ 48 →
      (∀ c' w' m' x' rk' G' ib' pf' pb' met' nx' way', cd_XI nb 0 c' x_builtKinds x_edgeTo ib' pf' pb' w' m' x' rk' G' → (∀ (mk tr st : Nat → Int32), (∀ i, i < d → st i = nI (w i) ∧ tr i = nI (x (w i))) → (∀ b, b < nb → mk b = nI (m b)) → ∀ postY : SY → Prop, (∀ mk' tr' st', postY (y_made, y_blocks, y_edges, y_paths, y_many, y_lastX, y_lastY, y_lastBlocks, y_op, y_number, y_kind, y_target, y_from, x_edgeTo, y_exit, y_weight, x_firstEdge, y_tree, ib', y_row, y_length, y_gone, y_done, y_went, y_cut, y_kept, mk', y_way, tr', st')) → ∃ n, wY_findBack_67 postY y_made y_blocks y_edges y_paths y_many y_lastX y_lastY y_lastBlocks n (nI (d)) y_op y_number y_kind y_target y_from x_edgeTo y_exit y_weight x_firstEdge y_tree ib y_row y_length y_gone y_done y_went y_cut y_kept mk y_way tr st) → post (x_blocks, (nI nb), x_edges, x_paths, x_runX, x_runY, x_runDone, x_ops, x_operands, x_kinds, x_targets, x_builtOps, x_builtOperands, x_builtKinds, x_firstEdge, x_edgeFrom, x_edgeExit, x_edgeTo, x_edgeWeight, x_inTree, ib', x_beginsPaths, x_firstPath, pf', pb', x_counts, x_dumped, x_dumpKept, x_looked, x_joined, met', nx', way')) → ∃ n, wX_findBackEdges_48 post n (nI d) (nI s) x_blocks (nI nb) x_edges x_paths x_runX x_runY x_runDone x_ops x_operands x_kinds x_targets x_builtOps x_builtOperands x_builtKinds x_firstEdge x_edgeFrom x_edgeExit x_edgeTo x_edgeWeight x_inTree ib x_beginsPaths x_firstPath pf pb x_counts x_dumped x_dumpKept x_looked x_joined met nx way := by
  have hfb := (cd_fs_b x_builtKinds nb).2
  intro R
  induction R with
  | zero =>
    intro d c s w m x rk G ib pf pb met nx way post hI hw hl hR hs hp
    have hd : d = 0 := by
      by_cases g : d = 0
      · exact g
      · exfalso
        obtain ⟨h1, h2, h3, h4, _⟩ := hI
        obtain ⟨a1, a2⟩ := h1 0 (by omega)
        have := cd_sm_0 (f := fun b => if m b = 2 then 0 else 1 + cd_ec (x_builtKinds b) - x b) hR a1
        rw [if_neg (by omega)] at this
        have := (h4 (w 0) a1).2.1
        omega
    subst hd
    have P := hp c w m x rk G ib pf pb met nx way hI (fun mk tr st _ _ postY hY => ⟨1, pk_le 0 0 (fun _ => hY mk tr st) (fun h => absurd h (by omega))⟩)
    exact ⟨1, pk_le 48 s (fun _ => P) (fun _ => pk_le 0 0 (fun _ => P) (fun h => absurd h (by omega)))⟩
  | succ R ih =>
    intro d c s w m x rk G ib pf pb met nx way post hI hw hl hR hs hp
    cases d with
    | zero =>
      have P := hp c w m x rk G ib pf pb met nx way hI (fun mk tr st _ _ postY hY => ⟨1, pk_le 0 0 (fun _ => hY mk tr st) (fun h => absurd h (by omega))⟩)
      exact ⟨1, pk_le 48 s (fun _ => P) (fun _ => pk_le 0 0 (fun _ => P) (fun h => absurd h (by omega)))⟩
    | succ d =>
      obtain ⟨hb, hmb⟩ := hI.1 d (by omega)
      have hxle := (hI.2.2.2.1 (w d) hb).2.1
      have hd12 : d + 1 ≤ nb := by have := hI.2.2.2.2.1; omega
      have hwd : ∀ i, i < d → w i ≠ w d := fun i hi e => by have := hI.2.1 i d (by omega) (by omega) e; omega
      have hwy := hw d (by omega)
      obtain ⟨hme, hne⟩ := hl (w d) hb
      have hfsl := cd_fs_lt (kd := x_builtKinds) hb
      have cd1 : nI (d + 1) - 1 = nI d := nI_pred d
      have cdd := cd_cl (n := d) (by omega)
      have cb := cd_cl (n := w d) (by omega)
      have c12 : (12 : Int32) + nI (w d) = nI (12 + w d) := nI_add 12 _
      have cc12 := cd_cl (n := 12 + w d) (by omega)
      have hecr := cd_ec_r (x_builtKinds (w d))
      -- X's turn up to the choice
      have XT : ∀ n, (nI (x (w d)) = nI (cd_ec (x_builtKinds (w d))) → ∀ mt, mt = upd met (w d) 2 → wpX_countPathsFrom (fun u => match u with | (u_blocks, u_builtBlocks, u_edges, u_paths, u_runX, u_runY, u_runDone, u_ops, u_operands, u_kinds, u_targets, u_builtOps, u_builtOperands, u_builtKinds, u_firstEdge, u_edgeFrom, u_edgeExit, u_edgeTo, u_edgeWeight, u_inTree, u_isBack, u_beginsPaths, u_firstPath, u_pathsFrom, u_pathsBefore, u_counts, u_dumped, u_dumpKept, u_looked, u_joined, u_met, u_nextExit, u_way) => ∀ x1, x1 = nI (d + 1) + (-1) → ∀ x2, x2 = nI s + 1 → wX_findBackEdges_48 post n x1 x2 u_blocks u_builtBlocks u_edges u_paths u_runX u_runY u_runDone u_ops u_operands u_kinds u_targets u_builtOps u_builtOperands u_builtKinds u_firstEdge u_edgeFrom u_edgeExit u_edgeTo u_edgeWeight u_inTree u_isBack u_beginsPaths u_firstPath u_pathsFrom u_pathsBefore u_counts u_dumped u_dumpKept u_looked u_joined u_met u_nextExit u_way) (x_blocks, (nI nb), x_edges, x_paths, x_runX, x_runY, x_runDone, x_ops, x_operands, x_kinds, x_targets, x_builtOps, x_builtOperands, x_builtKinds, x_firstEdge, x_edgeFrom, x_edgeExit, x_edgeTo, x_edgeWeight, x_inTree, ib, x_beginsPaths, x_firstPath, pf, pb, x_counts, x_dumped, x_dumpKept, x_looked, x_joined, mt, nx, way) (nI (w d))) →
          (¬ nI (x (w d)) = nI (cd_ec (x_builtKinds (w d))) → wpX_lookAtNextExit (fun r u => match u with | (u_blocks, u_builtBlocks, u_edges, u_paths, u_runX, u_runY, u_runDone, u_ops, u_operands, u_kinds, u_targets, u_builtOps, u_builtOperands, u_builtKinds, u_firstEdge, u_edgeFrom, u_edgeExit, u_edgeTo, u_edgeWeight, u_inTree, u_isBack, u_beginsPaths, u_firstPath, u_pathsFrom, u_pathsBefore, u_counts, u_dumped, u_dumpKept, u_looked, u_joined, u_met, u_nextExit, u_way) => ((r = (-1) → ∀ x2, x2 = nI s + 1 → wX_findBackEdges_48 post n (nI (d + 1)) x2 u_blocks u_builtBlocks u_edges u_paths u_runX u_runY u_runDone u_ops u_operands u_kinds u_targets u_builtOps u_builtOperands u_builtKinds u_firstEdge u_edgeFrom u_edgeExit u_edgeTo u_edgeWeight u_inTree u_isBack u_beginsPaths u_firstPath u_pathsFrom u_pathsBefore u_counts u_dumped u_dumpKept u_looked u_joined u_met u_nextExit u_way) ∧ (¬ r = (-1) → (vp_in r 12 ∧ ((u_met r.toNatClampNeg = 0 → (vp_in r 12 ∧ ∀ mt, mt = upd u_met r.toNatClampNeg 1 → (vp_in (nI (d + 1)) 12 ∧ ∀ wy, wy = upd u_way (nI (d + 1)).toNatClampNeg r → ∀ x1, x1 = nI (d + 1) + 1 → ∀ x2, x2 = nI s + 1 → wX_findBackEdges_48 post n x1 x2 u_blocks u_builtBlocks u_edges u_paths u_runX u_runY u_runDone u_ops u_operands u_kinds u_targets u_builtOps u_builtOperands u_builtKinds u_firstEdge u_edgeFrom u_edgeExit u_edgeTo u_edgeWeight u_inTree u_isBack u_beginsPaths u_firstPath u_pathsFrom u_pathsBefore u_counts u_dumped u_dumpKept u_looked u_joined mt u_nextExit wy))) ∧ (¬ u_met r.toNatClampNeg = 0 → ∀ x2, x2 = nI s + 1 → wX_findBackEdges_48 post n (nI (d + 1)) x2 u_blocks u_builtBlocks u_edges u_paths u_runX u_runY u_runDone u_ops u_operands u_kinds u_targets u_builtOps u_builtOperands u_builtKinds u_firstEdge u_edgeFrom u_edgeExit u_edgeTo u_edgeWeight u_inTree u_isBack u_beginsPaths u_firstPath u_pathsFrom u_pathsBefore u_counts u_dumped u_dumpKept u_looked u_joined u_met u_nextExit u_way)))))) (x_blocks, (nI nb), x_edges, x_paths, x_runX, x_runY, x_runDone, x_ops, x_operands, x_kinds, x_targets, x_builtOps, x_builtOperands, x_builtKinds, x_firstEdge, x_edgeFrom, x_edgeExit, x_edgeTo, x_edgeWeight, x_inTree, ib, x_beginsPaths, x_firstPath, pf, pb, x_counts, x_dumped, x_dumpKept, x_looked, x_joined, met, nx, way) (nI (w d))) → wX_findBackEdges_48 post (n + 1) (nI (d + 1)) (nI s) x_blocks (nI nb) x_edges x_paths x_runX x_runY x_runDone x_ops x_operands x_kinds x_targets x_builtOps x_builtOperands x_builtKinds x_firstEdge x_edgeFrom x_edgeExit x_edgeTo x_edgeWeight x_inTree ib x_beginsPaths x_firstPath pf pb x_counts x_dumped x_dumpKept x_looked x_joined met nx way := by
        intro n hA hB
        refine pk_le 48 s (fun h => absurd h (by omega)) (fun _ => pk_le (d + 1) 0 (fun h => absurd h (by omega)) (fun _ => ⟨pk_in d 12 (by omega) cd1, ?_⟩))
        rw [cd1, cdd, hwy]
        refine nm_e ⟨pk_in (w d) 12 (by omega), pk_in (w d) 12 (by omega), ?_⟩
        rw [cb, hne]
        exact cd_xec (br_c (fun z => ⟨pk_in (w d) 12 (by omega), hA z⟩) (fun z => hB z))
      -- Y's turn up to the choice
      have YT : ∀ (mk tr st : Nat → Int32) (postY : SY → Prop) n, (∀ i, i < d + 1 → st i = nI (w i) ∧ tr i = nI (x (w i))) → (nI (x (w d)) = nI (cd_ec (x_builtKinds (w d))) → wY_findBack_67 postY y_made y_blocks y_edges y_paths y_many y_lastX y_lastY y_lastBlocks n (nI d) y_op y_number y_kind y_target y_from x_edgeTo y_exit y_weight x_firstEdge y_tree ib y_row y_length y_gone y_done y_went y_cut y_kept (upd mk (w d) 2) y_way tr st) →
          (¬ nI (x (w d)) = nI (cd_ec (x_builtKinds (w d))) → ((0 ≤ x_edgeTo (cd_fs x_builtKinds (w d) + x (w d)) → (vp_in (x_edgeTo (cd_fs x_builtKinds (w d) + x (w d))) 13 ∧ ((mk (x_edgeTo (cd_fs x_builtKinds (w d) + x (w d))).toNatClampNeg = 1 → wY_findBack_176 postY (wY_findBack_67 postY y_made y_blocks y_edges y_paths y_many y_lastX y_lastY y_lastBlocks n) (nI (d + 1)) (x_edgeTo (cd_fs x_builtKinds (w d) + x (w d))) y_made y_blocks y_edges y_paths y_many y_lastX y_lastY y_lastBlocks y_op y_number y_kind y_target y_from x_edgeTo y_exit y_weight x_firstEdge y_tree (upd ib (cd_fs x_builtKinds (w d) + x (w d)) 1) y_row y_length y_gone y_done y_went y_cut y_kept mk y_way (upd tr d (nI (x (w d) + 1))) st) ∧ (¬ mk (x_edgeTo (cd_fs x_builtKinds (w d) + x (w d))).toNatClampNeg = 1 → wY_findBack_176 postY (wY_findBack_67 postY y_made y_blocks y_edges y_paths y_many y_lastX y_lastY y_lastBlocks n) (nI (d + 1)) (x_edgeTo (cd_fs x_builtKinds (w d) + x (w d))) y_made y_blocks y_edges y_paths y_many y_lastX y_lastY y_lastBlocks y_op y_number y_kind y_target y_from x_edgeTo y_exit y_weight x_firstEdge y_tree ib y_row y_length y_gone y_done y_went y_cut y_kept mk y_way (upd tr d (nI (x (w d) + 1))) st)))) ∧ (¬ 0 ≤ x_edgeTo (cd_fs x_builtKinds (w d) + x (w d)) → wY_findBack_67 postY y_made y_blocks y_edges y_paths y_many y_lastX y_lastY y_lastBlocks n (nI (d + 1)) y_op y_number y_kind y_target y_from x_edgeTo y_exit y_weight x_firstEdge y_tree ib y_row y_length y_gone y_done y_went y_cut y_kept mk y_way (upd tr d (nI (x (w d) + 1))) st))) →
          wY_findBack_67 postY y_made y_blocks y_edges y_paths y_many y_lastX y_lastY y_lastBlocks (n + 1) (nI (d + 1)) y_op y_number y_kind y_target y_from x_edgeTo y_exit y_weight x_firstEdge y_tree ib y_row y_length y_gone y_done y_went y_cut y_kept mk y_way tr st := by
        intro mk tr st postY n hst hA hB
        obtain ⟨s1, s2⟩ := hst d (by omega)
        have hfeb := hfe (w d) hb
        obtain ⟨hkdb, hk6⟩ := hkd (w d) hb
        refine pk_le (d + 1) 0 (fun h => absurd h (by omega)) (fun _ => ⟨pk_in d 13 (by omega) cd1, ?_⟩)
        rw [cd1, cdd, s1]
        refine nm_e ⟨pk_in d 13 (by omega), ?_⟩
        rw [s2]
        refine nm_e ⟨pk_in (12 + w d) 24 (by omega) c12, ?_⟩
        rw [c12, cc12, hkdb, cb]
        refine cd_yec hk6 (br_c (fun z => ⟨pk_in (w d) 13 (by omega), nm_e (nm_r (pk_m1 d) (hA z))⟩) (fun z => ?_))
        have hxlt : x (w d) < cd_ec (x_builtKinds (w d)) := by
          rw [nI_eq (by omega) (by omega)] at z; omega
        refine ⟨pk_in d 13 (by omega), pk_in d 13 (by omega), nm_r (e' := upd tr d (nI (x (w d) + 1))) (by rw [nI_1]) ⟨pk_in (w d) 13 (by omega), nm_r (e' := nI (cd_fs x_builtKinds (w d) + x (w d))) (by rw [hfeb, nI_add]) ⟨pk_in (cd_fs x_builtKinds (w d) + x (w d)) 37 (by omega), ?_⟩⟩⟩
        rw [cd_cl (n := cd_fs x_builtKinds (w d) + x (w d)) (by omega)]
        refine nm_e (br_c (fun y => ⟨?_, ?_⟩) (fun y => ?_))
        · exact ((hB z).1 y).1
        · refine br_c (fun v => ⟨pk_in (cd_fs x_builtKinds (w d) + x (w d)) 37 (by omega), nm_e (((hB z).1 y).2.1 v)⟩) (fun v => ((hB z).1 y).2.2 v)
        · exact (hB z).2 y
      by_cases hx : x (w d) = cd_ec (x_builtKinds (w d))
      · -- the block is left
        obtain ⟨hI', hre, hG'⟩ := cd_XI_leave hnb hI hx
        have I2 := ih d (c + 1) (s + 1) w (cd_fu m (w d) 2) x _ _ ib _ _ (upd met (w d) 2) nx way post hI' (fun i hi => hw i (by omega)) (fun b hb2 => by
          refine ⟨?_, (hl b hb2).2⟩
          by_cases e : b = w d
          · subst e; rw [pk_us, cd_fus]; rfl
          · rw [pk_un e, cd_fun e]; exact (hl b hb2).1) (by omega) (by omega) (fun c' w' m' x' rk' G' ib' pf' pb' met' nx' way' hF hY => hp c' w' m' x' rk' G' ib' pf' pb' met' nx' way' hF (fun mk tr st hst hmk postY hpY => by
            obtain ⟨n, hn⟩ := hY (upd mk (w d) 2) tr st (fun i hi => hst i (by omega)) (fun b hb2 => by
              by_cases e : b = w d
              · subst e; rw [pk_us, cd_fus]; rfl
              · rw [pk_un e, cd_fun e]; exact hmk b hb2) postY hpY
            exact ⟨n + 1, YT mk tr st postY n hst (fun _ => hn) (fun z => absurd (congrArg nI hx) z)⟩))
        obtain ⟨n, hn⟩ := I2
        refine ⟨n + 1, XT n (fun _ => nm_e (cd_xcpf hnb hb (hfe (w d) hb) hG' (nm_r (pk_m1 d) (nm_r (nI_1 s) hn)))) (fun z => absurd (congrArg nI hx) z)⟩
      · have hxlt : x (w d) < cd_ec (x_builtKinds (w d)) := by omega
        have hxne : ¬ nI (x (w d)) = nI (cd_ec (x_builtKinds (w d))) := by rw [nI_eq (by omega) (by omega)]; exact hx
        have hib0 : ib (cd_fs x_builtKinds (w d) + x (w d)) = 0 := hI.2.2.2.2.2.2.2.1 (w d) hb (x (w d)) (Nat.le_refl _) hxlt
        have hto' := hto (cd_fs x_builtKinds (w d) + x (w d)) (by omega)
        have nxl : ∀ b, b < nb → upd nx (w d) (nI (x (w d) + 1)) b = nI (cd_fu x (w d) (x (w d) + 1) b) := by
          intro b hb2
          by_cases e : b = w d
          · subst e; rw [pk_us, cd_fus]
          · rw [pk_un e, cd_fun e]; exact (hl b hb2).2
        have trl : ∀ (tr st : Nat → Int32), (∀ i, i < d + 1 → st i = nI (w i) ∧ tr i = nI (x (w i))) → ∀ i, i < d + 1 → st i = nI (w i) ∧ upd tr d (nI (x (w d) + 1)) i = nI (cd_fu x (w d) (x (w d) + 1) (w i)) := by
          intro tr st hst i hi
          refine ⟨(hst i hi).1, ?_⟩
          by_cases e : i = d
          · subst e; rw [pk_us, cd_fus]
          · rw [pk_un e, cd_fun (hwd i (by omega))]; exact (hst i hi).2
        rcases hto' with hout | ⟨t, ht, hte⟩
        · -- outside
          obtain ⟨hI', hre⟩ := cd_XI_look (v := 0) hnb hI hxlt (Or.inl hout) (fun _ => rfl)
          have I2 := ih (d + 1) c (s + 1) w m (cd_fu x (w d) (x (w d) + 1)) rk G (upd ib (cd_fs x_builtKinds (w d) + x (w d)) 0) pf pb met (upd nx (w d) (nI (x (w d) + 1))) way post hI' hw (fun b hb2 => ⟨(hl b hb2).1, nxl b hb2⟩) (by omega) (by omega) (fun c' w' m' x' rk' G' ib' pf' pb' met' nx' way' hF hY => hp c' w' m' x' rk' G' ib' pf' pb' met' nx' way' hF (fun mk tr st hst hmk postY hpY => by
            obtain ⟨n, hn⟩ := hY mk (upd tr d (nI (x (w d) + 1))) st (trl tr st hst) hmk postY hpY
            rw [cd_upd_id hib0.symm] at hn
            exact ⟨n + 1, YT mk tr st postY n hst (fun z => absurd z hxne) (fun _ => br_f (by rw [hout]; decide) hn)⟩))
          obtain ⟨n, hn⟩ := I2
          refine ⟨n + 1, XT n (fun z => absurd z hxne) (fun _ => cd_xlne hnb hb (hfe (w d) hb) hxlt hne (fun _ => br_t rfl (nm_r (nI_1 s) hn)) (fun t _ e => absurd (hout.symm.trans e).symm (cd_nm1 (by omega))) (fun t _ e => absurd (hout.symm.trans e).symm (cd_nm1 (by omega))) (Or.inl hout))⟩
        · have ct : (x_edgeTo (cd_fs x_builtKinds (w d) + x (w d))).toNatClampNeg = t := by rw [hte, cd_cl (by omega)]
          have hmt := (hl t ht).1
          have hm2 := (hI.2.2.2.1 t ht).1
          have Yge : (0 : Int32) ≤ x_edgeTo (cd_fs x_builtKinds (w d) + x (w d)) := by rw [hte]; exact nI_pos' (by omega)
          have Yin : vp_in (x_edgeTo (cd_fs x_builtKinds (w d) + x (w d))) 13 := by rw [hte]; exact pk_in t 13 (by omega)
          have same : ∀ t', t' < nb → x_edgeTo (cd_fs x_builtKinds (w d) + x (w d)) = nI t' → t' = t := by
            intro t' h1 h2
            rw [hte, nI_eq (by omega) (by omega)] at h2
            exact h2.symm
          by_cases hm1 : m t = 1
          · -- a back edge
            obtain ⟨hI', hre⟩ := cd_XI_look (v := 1) hnb hI hxlt (Or.inr ⟨t, ht, hte, by omega, fun z => absurd z (show ¬ (1 : Int32) = 0 by decide)⟩) (fun z => absurd (hte.symm.trans z) (cd_nm1 (by omega)))
            have I2 := ih (d + 1) c (s + 1) w m (cd_fu x (w d) (x (w d) + 1)) rk G (upd ib (cd_fs x_builtKinds (w d) + x (w d)) 1) pf pb met (upd nx (w d) (nI (x (w d) + 1))) way post hI' hw (fun b hb2 => ⟨(hl b hb2).1, nxl b hb2⟩) (by omega) (by omega) (fun c' w' m' x' rk' G' ib' pf' pb' met' nx' way' hF hY => hp c' w' m' x' rk' G' ib' pf' pb' met' nx' way' hF (fun mk tr st hst hmk postY hpY => by
              obtain ⟨n, hn⟩ := hY mk (upd tr d (nI (x (w d) + 1))) st (trl tr st hst) hmk postY hpY
              have hmkt := hmk t ht
              rw [hm1] at hmkt
              refine ⟨n + 1, YT mk tr st postY n hst (fun z => absurd z hxne) (fun _ => br_t Yge ⟨Yin, br_t (by rw [ct, hmkt]; rfl) ⟨Yin, ?_⟩⟩)⟩
              rw [ct, hmkt]
              exact br_f (by decide) hn))
            obtain ⟨n, hn⟩ := I2
            rw [hm1] at hmt
            refine ⟨n + 1, XT n (fun z => absurd z hxne) (fun _ => cd_xlne hnb hb (hfe (w d) hb) hxlt hne (fun e => absurd (hte.symm.trans e) (cd_nm1 (by omega))) (fun t' h1 h2 _ => ?_) (fun t' h1 h2 h3 => ?_) (Or.inr ⟨t, ht, hte⟩))⟩
            · rw [same t' h1 h2]
              refine br_f (cd_nm1 (by omega)) ⟨pk_in t 12 (by omega), ?_⟩
              rw [cd_cl (by omega), hmt]
              exact br_f (by decide) (nm_r (nI_1 s) hn)
            · rw [same t' h1 h2, hmt] at h3
              exact absurd rfl h3
          · by_cases hm0 : m t = 0
            · -- a new block
              obtain ⟨hI', hre, hdn⟩ := cd_XI_push hnb hI hxlt ht hte hm0
              have hte2 : w d ≠ t := fun e => by rw [← e, hmb] at hm0; omega
              have wyl : ∀ i, i < d + 1 + 1 → upd way (d + 1) (nI t) i = nI (cd_fu w (d + 1) t i) := by
                intro i hi
                by_cases e : i = d + 1
                · subst e; rw [pk_us, cd_fus]
                · rw [pk_un e, cd_fun e]; exact hw i (by omega)
              have mel : ∀ (f : Nat → Int32), (∀ b, b < nb → f b = nI (m b)) → ∀ b, b < nb → upd f t 1 b = nI (cd_fu m t 1 b) := by
                intro f hf b hb2
                by_cases e : b = t
                · subst e; rw [pk_us, cd_fus]; rfl
                · rw [pk_un e, cd_fun e]; exact hf b hb2
              have I2 := ih (d + 1 + 1) c (s + 1) (cd_fu w (d + 1) t) (cd_fu m t 1) (cd_fu x (w d) (x (w d) + 1)) rk G ib pf pb (upd met t 1) (upd nx (w d) (nI (x (w d) + 1))) (upd way (d + 1) (nI t)) post hI' wyl (fun b hb2 => ⟨mel met (fun b h => (hl b h).1) b hb2, nxl b hb2⟩) (by omega) (by omega) (fun c' w' m' x' rk' G' ib' pf' pb' met' nx' way' hF hY => hp c' w' m' x' rk' G' ib' pf' pb' met' nx' way' hF (fun mk tr st hst hmk postY hpY => by
                obtain ⟨n, hn⟩ := hY (upd mk t 1) (upd (upd tr d (nI (x (w d) + 1))) (d + 1) 0) (upd st (d + 1) (nI t)) (fun i hi => by
                  by_cases e : i = d + 1
                  · subst e
                    rw [pk_us, pk_us, cd_fus, cd_fun (fun z => hte2 z.symm), (hI.2.2.2.1 t ht).2.2.1 hm0]
                    exact ⟨rfl, rfl⟩
                  · rw [pk_un e, pk_un e, cd_fun e]
                    exact trl tr st hst i (by omega)) (mel mk hmk) postY hpY
                have hmkt := hmk t ht
                rw [hm0] at hmkt
                refine ⟨n + 1, YT mk tr st postY n hst (fun z => absurd z hxne) (fun _ => br_t Yge ⟨Yin, br_f (by rw [ct, hmkt]; decide) ⟨Yin, ?_⟩⟩)⟩
                rw [ct, hmkt, hte]
                refine br_t rfl ⟨pk_in t 13 (by omega), nm_e ⟨pk_in (d + 1) 13 (by omega), ?_⟩⟩
                rw [cd_cl (n := d + 1) (by omega)]
                exact nm_e ⟨pk_in (d + 1) 13 (by omega), nm_e (nm_r (nI_1 _) hn)⟩))
              obtain ⟨n, hn⟩ := I2
              rw [hm0] at hmt
              refine ⟨n + 1, XT n (fun z => absurd z hxne) (fun _ => cd_xlne hnb hb (hfe (w d) hb) hxlt hne (fun e => absurd (hte.symm.trans e) (cd_nm1 (by omega))) (fun t' h1 h2 h3 => ?_) (fun t' h1 h2 h3 => ?_) (Or.inr ⟨t, ht, hte⟩))⟩
              · rw [same t' h1 h2, hmt] at h3
                exact absurd h3 (by decide)
              · rw [same t' h1 h2, cd_upd_id hib0.symm]
                refine br_f (cd_nm1 (by omega)) ⟨pk_in t 12 (by omega), ?_⟩
                rw [cd_cl (n := t) (by omega), hmt]
                refine br_t rfl ⟨pk_in t 12 (by omega), nm_e ⟨pk_in (d + 1) 12 (by omega), ?_⟩⟩
                rw [cd_cl (n := d + 1) (by omega)]
                exact nm_e (nm_r (nI_1 _) (nm_r (nI_1 s) hn))
            · -- a block that was left
              have hmt2 : m t = 2 := by omega
              obtain ⟨hI', hre⟩ := cd_XI_look (v := 0) hnb hI hxlt (Or.inr ⟨t, ht, hte, hm0, fun _ => hmt2⟩) (fun _ => rfl)
              have I2 := ih (d + 1) c (s + 1) w m (cd_fu x (w d) (x (w d) + 1)) rk G (upd ib (cd_fs x_builtKinds (w d) + x (w d)) 0) pf pb met (upd nx (w d) (nI (x (w d) + 1))) way post hI' hw (fun b hb2 => ⟨(hl b hb2).1, nxl b hb2⟩) (by omega) (by omega) (fun c' w' m' x' rk' G' ib' pf' pb' met' nx' way' hF hY => hp c' w' m' x' rk' G' ib' pf' pb' met' nx' way' hF (fun mk tr st hst hmk postY hpY => by
                obtain ⟨n, hn⟩ := hY mk (upd tr d (nI (x (w d) + 1))) st (trl tr st hst) hmk postY hpY
                rw [cd_upd_id hib0.symm] at hn
                have hmkt := hmk t ht
                rw [hmt2] at hmkt
                refine ⟨n + 1, YT mk tr st postY n hst (fun z => absurd z hxne) (fun _ => br_t Yge ⟨Yin, br_f (by rw [ct, hmkt]; decide) ⟨Yin, ?_⟩⟩)⟩
                rw [ct, hmkt]
                exact br_f (by decide) hn))
              obtain ⟨n, hn⟩ := I2
              rw [hmt2] at hmt
              refine ⟨n + 1, XT n (fun z => absurd z hxne) (fun _ => cd_xlne hnb hb (hfe (w d) hb) hxlt hne (fun e => absurd (hte.symm.trans e) (cd_nm1 (by omega))) (fun t' h1 h2 h3 => ?_) (fun t' h1 h2 h3 => ?_) (Or.inr ⟨t, ht, hte⟩))⟩
              · rw [same t' h1 h2, hmt] at h3
                exact absurd h3 (by decide)
              · rw [same t' h1 h2]
                refine br_f (cd_nm1 (by omega)) ⟨pk_in t 12 (by omega), ?_⟩
                rw [cd_cl (n := t) (by omega), hmt]
                exact br_f (by decide) (nm_r (nI_1 s) hn)
end
end
section
section
variable {x_blocks x_builtBlocks x_edges x_paths x_runX x_runY x_runDone : Int32} {x_ops x_operands x_kinds x_targets x_builtOps x_builtOperands x_builtKinds x_firstEdge x_edgeFrom x_edgeExit x_edgeTo x_edgeWeight x_inTree x_isBack x_beginsPaths x_firstPath x_pathsFrom x_pathsBefore x_counts x_dumped x_dumpKept x_looked x_joined x_met x_nextExit x_way : Nat → Int32} {y_made y_blocks y_edges y_paths y_many y_lastX y_lastY y_lastBlocks : Int32} {y_op y_number y_kind y_target y_from y_to y_exit y_weight y_firstEdge y_tree y_back y_row y_length y_gone y_done y_went y_cut y_kept y_mark y_way y_tried y_stack : Nat → Int32}
/-- what the walk leaves -/
theorem cd_XI_end {nb c : Nat} {bk to ib pf pb : Nat → Int32} {w m x rk G : Nat → Nat} (h : cd_XI nb 0 c bk to ib pf pb w m x rk G) (hnb : 0 < nb) : cd_PG nb bk to ib (fun b => m b = 2) rk ∧ cd_PN nb bk to ib pf pb (fun b => m b = 2) rk G ∧ (∀ b k : Nat, b < nb → k < cd_ec (bk b) → ib (cd_fs bk b + k) ≠ 0 → ∃ t : Nat, t < nb ∧ to (cd_fs bk b + k) = nI t ∧ m t = 2) := by
  obtain ⟨h1, h2, h3, h4, h5, h6, h7, h8, h9, h10, h11⟩ := h
  have two : ∀ b, b < nb → m b ≠ 0 → m b = 2 := by
    intro b hb hz
    have := (h4 b hb).1
    by_cases e : m b = 1
    · obtain ⟨i, hi, _⟩ := h3 b hb e
      omega
    · omega
  refine ⟨⟨two 0 hnb h10, fun b hb hm => ?_⟩, h9, fun b k hb hk hz => ?_⟩
  · obtain ⟨g1, g2⟩ := h7 b hb hm
    refine ⟨by omega, fun k hk => ?_⟩
    rcases g2 k hk with g | ⟨t, t1, t2, t3, t4⟩
    · exact Or.inl g
    · exact Or.inr ⟨t, t1, t2, two t t1 t3, fun z => (t4 z).2⟩
  · have hx : k < x b := by
      by_cases g : k < x b
      · exact g
      · exact absurd (h8 b hb k (by omega) hk) hz
    have hm : m b = 2 := by
      refine two b hb (fun z => ?_)
      have := (h4 b hb).2.2.1 z
      omega
    rcases (h7 b hb hm).2 k hk with g | ⟨s, t1, t2, t3, t4⟩
    · exact absurd (h11 b hb k hk g) hz
    · exact ⟨s, t1, t2, two s t1 t3⟩
theorem cd_xfb {post : SX → Prop} {nb : Nat} (hnb : nb ≤ 12) (hnb0 : 0 < nb) (hfe : ∀ b, b < nb → x_firstEdge b = nI (cd_fs x_builtKinds b)) (hkd : ∀ b, b < nb → y_kind (12 + b) = x_builtKinds b ∧ ∃ k : Nat, k < 6 ∧ x_builtKinds b = nI k) (hto : ∀ e, e < cd_fs x_builtKinds nb + 1 → x_edgeTo e = -1 ∨ ∃ t : Nat, t < nb ∧ x_edgeTo e = nI t) (hib : x_isBack = cd_fo y_back 0 (cd_fs x_builtKinds nb + 1) (fun _ => 0))
    (hp : ∀ (L : Nat → Prop) (rk G : Nat → Nat) (ib pf pb met nx way : Nat → Int32), cd_PG nb x_builtKinds x_edgeTo ib L rk → cd_PN nb x_builtKinds x_edgeTo ib pf pb L rk G → (∀ b k : Nat, b < nb → k < cd_ec (x_builtKinds b) → ib (cd_fs x_builtKinds b + k) ≠ 0 → ∃ t : Nat, t < nb ∧ x_edgeTo (cd_fs x_builtKinds b + k) = nI t ∧ L t) →
      (∀ postY : SY → Prop, (∀ mk tr st, postY (y_made, y_blocks, (nI (cd_fs x_builtKinds nb + 1)), y_paths, y_many, y_lastX, y_lastY, y_lastBlocks, y_op, y_number, y_kind, y_target, y_from, x_edgeTo, y_exit, y_weight, x_firstEdge, y_tree, ib, y_row, y_length, y_gone, y_done, y_went, y_cut, y_kept, mk, y_way, tr, st)) → wpY_findBack postY (y_made, y_blocks, (nI (cd_fs x_builtKinds nb + 1)), y_paths, y_many, y_lastX, y_lastY, y_lastBlocks, y_op, y_number, y_kind, y_target, y_from, x_edgeTo, y_exit, y_weight, x_firstEdge, y_tree, y_back, y_row, y_length, y_gone, y_done, y_went, y_cut, y_kept, y_mark, y_way, y_tried, y_stack)) → post (x_blocks, (nI nb), x_edges, x_paths, x_runX, x_runY, x_runDone, x_ops, x_operands, x_kinds, x_targets, x_builtOps, x_builtOperands, x_builtKinds, x_firstEdge, x_edgeFrom, x_edgeExit, x_edgeTo, x_edgeWeight, x_inTree, ib, x_beginsPaths, x_firstPath, pf, pb, x_counts, x_dumped, x_dumpKept, x_looked, x_joined, met, nx, way)) : wpX_findBackEdges post (x_blocks, (nI nb), x_edges, x_paths, x_runX, x_runY, x_runDone, x_ops, x_operands, x_kinds, x_targets, x_builtOps, x_builtOperands, x_builtKinds, x_firstEdge, x_edgeFrom, x_edgeExit, x_edgeTo, x_edgeWeight, x_inTree, x_isBack, x_beginsPaths, x_firstPath, x_pathsFrom, x_pathsBefore, x_counts, x_dumped, x_dumpKept, x_looked, x_joined, x_met, x_nextExit, x_way) := by
  have hfb := (cd_fs_b x_builtKinds nb).2
  refine cd_loop (fun n i => wX_findBackEdges_2 post x_blocks (nI nb) x_edges x_paths x_runX x_runY x_runDone n (nI i) x_ops x_operands x_kinds x_targets x_builtOps x_builtOperands x_builtKinds x_firstEdge x_edgeFrom x_edgeExit x_edgeTo x_edgeWeight x_inTree x_isBack x_beginsPaths x_firstPath x_pathsFrom x_pathsBefore x_counts x_dumped x_dumpKept x_looked x_joined (cd_fo x_met 0 i (fun _ => 0)) (cd_fo x_nextExit 0 i (fun _ => 0)) x_way) nb
    (fun n => pk_le nb nb (fun _ => nm_e (nm_e ?_)) (fun h => absurd h (by omega)))
    (fun n i hi hn => pk_le nb i (fun h => absurd h (by omega)) (fun h => ⟨pk_in i 12 (by omega), nm_r (cd_fo_z (by omega) rfl) ⟨pk_in i 12 (by omega), nm_r (cd_fo_z (by omega) rfl) (nm_r (nI_1 i) hn)⟩⟩))
  have hsum : cd_sm (fun b => if cd_fu (fun _ => 0) 0 1 b = 0 then 1 else 0) nb + 1 ≤ nb := by
    have := cd_sm_u (f := fun _ => 1) (g := fun b => if cd_fu (fun _ => 0) 0 1 b = 0 then 1 else 0) (j := 0) nb hnb0 (fun i _ hi => by
      show (if cd_fu (fun _ => 0) 0 1 i = 0 then 1 else 0) = 1
      rw [cd_fun hi]; rfl)
    have h2 := cd_sm_le (f := fun _ => 1) (c := 1) nb (fun _ _ => Nat.le_refl _)
    rw [cd_fus, if_neg (by decide)] at this
    omega
  have hI : cd_XI nb 1 0 x_builtKinds x_edgeTo x_isBack x_pathsFrom x_pathsBefore (fun _ => 0) (cd_fu (fun _ => 0) 0 1) (fun _ => 0) (fun _ => 0) (fun _ => 0) := by
    have m0 : ∀ b, b ≠ 0 → cd_fu (fun _ => 0) 0 1 b = 0 := fun b hb => cd_fun hb
    refine ⟨fun i hi => ⟨hnb0, cd_fus⟩, fun i j hi hj _ => by omega, fun b hb hm => ⟨0, by omega, ?_⟩, fun b hb => ⟨?_, Nat.zero_le _, fun _ => rfl, fun z => ?_⟩, by omega, fun i hi k hk => absurd hk (by show ¬ k < 0; omega), fun b hb hm => ?_, fun b hb k h1 h2 => ?_, fun b hb hm => ?_, by rw [cd_fus]; omega, fun b hb k hk _ => ?_⟩
    · by_cases e : b = 0
      · exact e.symm
      · rw [m0 b e] at hm; omega
    · by_cases e : b = 0
      · subst e; rw [cd_fus]; omega
      · rw [m0 b e]; omega
    · by_cases e : b = 0
      · subst e; rw [cd_fus] at z; omega
      · rw [m0 b e] at z; omega
    · by_cases e : b = 0
      · subst e; rw [cd_fus] at hm; omega
      · rw [m0 b e] at hm; omega
    · have := cd_fs_lt (kd := x_builtKinds) hb
      rw [hib]
      exact cd_fo_in (by omega) (by omega)
    · by_cases e : b = 0
      · subst e; rw [cd_fus] at hm; omega
      · rw [m0 b e] at hm; omega
    · have := cd_fs_lt (kd := x_builtKinds) hb
      rw [hib]
      exact cd_fo_in (by omega) (by omega)
  have hR : cd_re nb x_builtKinds (cd_fu (fun _ => 0) 0 1) (fun _ => 0) ≤ 48 := by
    have := cd_sm_le (f := fun b => if cd_fu (fun _ => 0) 0 1 b = 2 then 0 else 1 + cd_ec (x_builtKinds b) - 0) (c := 4) nb (fun i _ => by
      have := (cd_ec_r (x_builtKinds i)).2
      show (if cd_fu (fun _ => 0) 0 1 i = 2 then 0 else 1 + cd_ec (x_builtKinds i) - 0) ≤ 4
      split <;> omega)
    exact Nat.le_trans this (by omega)
  have mel : ∀ (f : Nat → Int32), (∀ b, b < nb → f b = 0) → ∀ b, b < nb → upd f 0 1 b = nI (cd_fu (fun _ => 0) 0 1 b) := by
    intro f hf b hb
    by_cases e : b = 0
    · subst e; rw [pk_us, cd_fus]; rfl
    · rw [pk_un e, cd_fun e, hf b hb]; rfl
  refine cd_dfs (x_blocks := x_blocks) (y_made := y_made) (y_blocks := y_blocks) (y_edges := nI (cd_fs x_builtKinds nb + 1)) (y_paths := y_paths) (y_many := y_many) (y_lastX := y_lastX) (y_lastY := y_lastY) (y_lastBlocks := y_lastBlocks) (y_op := y_op) (y_number := y_number) (y_kind := y_kind) (y_target := y_target) (y_from := y_from) (y_exit := y_exit) (y_weight := y_weight) (y_tree := y_tree) (y_row := y_row) (y_length := y_length) (y_gone := y_gone) (y_done := y_done) (y_went := y_went) (y_cut := y_cut) (y_kept := y_kept) (y_way := y_way) hnb hnb0 hfe hkd hto _ 1 0 0 (fun _ => 0) (cd_fu (fun _ => 0) 0 1) (fun _ => 0) (fun _ => 0) (fun _ => 0) x_isBack x_pathsFrom x_pathsBefore _ _ _ post hI (fun i hi => ?_) (fun b hb => ⟨mel _ (fun b hb => cd_fo_in (by omega) (by omega)) b hb, cd_fo_in (by omega) (by omega)⟩) rfl (by omega) (fun c' w' m' x' rk' G' ib' pf' pb' met' nx' way' hF hY => ?_)
  · have : i = 0 := by omega
    subst this
    exact pk_us
  · obtain ⟨e1, e2, e3⟩ := cd_XI_end hF hnb0
    refine hp (fun b => m' b = 2) rk' G' ib' pf' pb' met' nx' way' e1 e2 e3 (fun postY hpY => ?_)
    refine cd_loop (fun n i => wY_findBack_2 postY y_made y_blocks (nI (cd_fs x_builtKinds nb + 1)) y_paths y_many y_lastX y_lastY y_lastBlocks n (nI i) y_op y_number y_kind y_target y_from x_edgeTo y_exit y_weight x_firstEdge y_tree (cd_fo y_back 0 i (fun _ => 0)) y_row y_length y_gone y_done y_went y_cut y_kept y_mark y_way y_tried y_stack) (cd_fs x_builtKinds nb + 1)
      (fun n => pk_le (cd_fs x_builtKinds nb + 1) (cd_fs x_builtKinds nb + 1) (fun _ => ?_) (fun h => absurd h (by omega)))
      (fun n i hi hn => pk_le (cd_fs x_builtKinds nb + 1) i (fun h => absurd h (by omega)) (fun h => ⟨pk_in i 37 (by omega), nm_r (cd_fo_z (by omega) rfl) (nm_r (nI_1 i) hn)⟩))
    rw [← hib]
    refine cd_loop (fun n i => wY_findBack_25 postY y_made y_blocks (nI (cd_fs x_builtKinds nb + 1)) y_paths y_many y_lastX y_lastY y_lastBlocks n (nI i) y_op y_number y_kind y_target y_from x_edgeTo y_exit y_weight x_firstEdge y_tree x_isBack y_row y_length y_gone y_done y_went y_cut y_kept (cd_fo y_mark 0 i (fun _ => 0)) y_way y_tried y_stack) 13
      (fun n => pk_le 13 13 (fun _ => nm_e (nm_e (nm_e ?_))) (fun h => absurd h (by omega)))
      (fun n i hi hn => pk_le 13 i (fun h => absurd h (by omega)) (fun h => ⟨pk_in i 13 (by omega), nm_r (cd_fo_z (by omega) rfl) (nm_r (nI_1 i) hn)⟩))
    refine hY _ _ _ (fun i hi => ?_) (mel _ (fun b hb => cd_fo_in (by omega) (by omega))) postY hpY
    have : i = 0 := by omega
    subst this
    exact ⟨pk_us, pk_us⟩
/-- X numbers the paths -/
theorem cd_xnum {post : SX → Prop} {nb ne : Nat} {G : Nat → Nat} {L : Nat → Prop} (hnb : nb ≤ 12) (hne : ne ≤ 37) (hto : ∀ e, e < ne → x_isBack e ≠ 0 → ∃ t : Nat, t < nb ∧ x_edgeTo e = nI t ∧ L t) (hL0 : L 0) (hpf : ∀ b, b < nb → L b → x_pathsFrom b = nI (G b))
    (hp : ∀ bg fp, cd_PB nb ne x_edgeTo x_isBack bg → (∀ b, b < nb → bg b ≠ 0 → L b) → (∀ b, b < nb → fp b = nI (cd_fp bg G b)) → post (x_blocks, (nI nb), (nI ne), (nI (cd_fp bg G nb)), x_runX, x_runY, x_runDone, x_ops, x_operands, x_kinds, x_targets, x_builtOps, x_builtOperands, x_builtKinds, x_firstEdge, x_edgeFrom, x_edgeExit, x_edgeTo, x_edgeWeight, x_inTree, x_isBack, bg, fp, x_pathsFrom, x_pathsBefore, x_counts, x_dumped, x_dumpKept, x_looked, x_joined, x_met, x_nextExit, x_way)) : wpX_numberPaths post (x_blocks, (nI nb), (nI ne), x_paths, x_runX, x_runY, x_runDone, x_ops, x_operands, x_kinds, x_targets, x_builtOps, x_builtOperands, x_builtKinds, x_firstEdge, x_edgeFrom, x_edgeExit, x_edgeTo, x_edgeWeight, x_inTree, x_isBack, x_beginsPaths, x_firstPath, x_pathsFrom, x_pathsBefore, x_counts, x_dumped, x_dumpKept, x_looked, x_joined, x_met, x_nextExit, x_way) := by
  have third : ∀ bg, cd_PB nb ne x_edgeTo x_isBack bg → ∃ n, wX_numberPaths_75 post x_blocks (nI nb) (nI ne) x_runX x_runY x_runDone n 0 0 x_ops x_operands x_kinds x_targets x_builtOps x_builtOperands x_builtKinds x_firstEdge x_edgeFrom x_edgeExit x_edgeTo x_edgeWeight x_inTree x_isBack bg x_firstPath x_pathsFrom x_pathsBefore x_counts x_dumped x_dumpKept x_looked x_joined x_met x_nextExit x_way := by
    intro bg hbg
    have hL : ∀ b, b < nb → bg b ≠ 0 → L b := by
      intro b hb hz
      rcases (hbg b hb).mp hz with e | ⟨e, h1, h2, h3⟩
      · rw [e]; exact hL0
      · obtain ⟨t, t1, t2, t3⟩ := hto e h1 h2
        rw [h3, nI_eq (by omega) (by omega)] at t2
        rw [t2]; exact t3
    refine cd_loop (fun n i => wX_numberPaths_75 post x_blocks (nI nb) (nI ne) x_runX x_runY x_runDone n (nI i) (nI (cd_fp bg G i)) x_ops x_operands x_kinds x_targets x_builtOps x_builtOperands x_builtKinds x_firstEdge x_edgeFrom x_edgeExit x_edgeTo x_edgeWeight x_inTree x_isBack bg (cd_fo x_firstPath 0 i (fun b => nI (cd_fp bg G b))) x_pathsFrom x_pathsBefore x_counts x_dumped x_dumpKept x_looked x_joined x_met x_nextExit x_way) nb
      (fun n => pk_le nb nb (fun _ => hp bg _ hbg hL (fun b hb => cd_fo_in (by omega) (by omega))) (fun h => absurd h (by omega)))
      (fun n i hi hn => pk_le nb i (fun h => absurd h (by omega)) (fun h => ⟨pk_in i 12 (by omega), nm_r (cd_fo_z (by omega) rfl) ⟨pk_in i 12 (by omega), ?_⟩⟩))
    rw [cd_cl (n := i) (by omega)]
    refine br_c (fun z => nm_r (nI_1 i) ?_) (fun z => ⟨pk_in i 12 (by omega), nm_r (e' := nI (cd_fp bg G (i + 1))) ?_ (nm_r (nI_1 i) hn)⟩)
    · have e : cd_fp bg G (i + 1) = cd_fp bg G i := by
        show cd_sm _ i + (if bg i = 0 then 0 else G i) = _
        rw [if_pos z]; rfl
      rw [e] at hn
      exact hn
    · have e : cd_fp bg G (i + 1) = cd_fp bg G i + G i := by
        show cd_sm _ i + (if bg i = 0 then 0 else G i) = _
        rw [if_neg z]; rfl
      rw [e, hpf i hi (hL i hi z), nI_add]
  have second : ∀ d e bg, e + d = ne → (∀ b, b < nb → (bg b ≠ 0 ↔ b = 0 ∨ ∃ f, f < e ∧ x_isBack f ≠ 0 ∧ x_edgeTo f = nI b)) → wX_numberPaths_33 post x_blocks (nI nb) (nI ne) x_paths x_runX x_runY x_runDone (d + 1) (nI e) x_ops x_operands x_kinds x_targets x_builtOps x_builtOperands x_builtKinds x_firstEdge x_edgeFrom x_edgeExit x_edgeTo x_edgeWeight x_inTree x_isBack bg x_firstPath x_pathsFrom x_pathsBefore x_counts x_dumped x_dumpKept x_looked x_joined x_met x_nextExit x_way := by
    intro d
    induction d with
    | zero =>
      intro e bg he hb
      have : e = ne := by omega
      subst this
      exact pk_le e e (fun _ => third bg hb) (fun h => absurd h (by omega))
    | succ d ih =>
      intro e bg he hb
      refine pk_le ne e (fun h => absurd h (by omega)) (fun _ => ⟨pk_in e 37 (by omega), ?_⟩)
      rw [cd_cl (n := e) (by omega)]
      refine br_c (fun z => nm_r (nI_1 e) (ih (e + 1) bg (by omega) (fun b hb2 => ?_))) (fun z => ?_)
      · rw [hb b hb2]
        constructor
        · rintro (g | ⟨f, f1, f2, f3⟩)
          · exact Or.inl g
          · exact Or.inr ⟨f, by omega, f2, f3⟩
        · rintro (g | ⟨f, f1, f2, f3⟩)
          · exact Or.inl g
          · by_cases g : f = e
            · subst g; exact absurd z f2
            · exact Or.inr ⟨f, by omega, f2, f3⟩
      · obtain ⟨t, t1, t2, t3⟩ := hto e (by omega) z
        rw [t2]
        refine ⟨pk_in e 37 (by omega), pk_in t 12 (by omega), nm_r (e' := upd bg t 1) (by rw [cd_cl (by omega)]; rfl) (nm_r (nI_1 e) (ih (e + 1) _ (by omega) (fun b hb2 => ?_)))⟩
        by_cases g : b = t
        · subst g
          rw [pk_us]
          exact ⟨fun _ => Or.inr ⟨e, by omega, z, t2⟩, fun _ => by decide⟩
        · rw [pk_un g, hb b hb2]
          constructor
          · rintro (g2 | ⟨f, f1, f2, f3⟩)
            · exact Or.inl g2
            · exact Or.inr ⟨f, by omega, f2, f3⟩
          · rintro (g2 | ⟨f, f1, f2, f3⟩)
            · exact Or.inl g2
            · by_cases g3 : f = e
              · subst g3
                rw [t2, nI_eq (by omega) (by omega)] at f3
                exact absurd f3.symm g
              · exact Or.inr ⟨f, by omega, f2, f3⟩
  refine cd_loop (fun n i => wX_numberPaths_2 post x_blocks (nI nb) (nI ne) x_paths x_runX x_runY x_runDone n (nI i) x_ops x_operands x_kinds x_targets x_builtOps x_builtOperands x_builtKinds x_firstEdge x_edgeFrom x_edgeExit x_edgeTo x_edgeWeight x_inTree x_isBack (cd_fo x_beginsPaths 0 i (fun b => if b = 0 then 1 else 0)) x_firstPath x_pathsFrom x_pathsBefore x_counts x_dumped x_dumpKept x_looked x_joined x_met x_nextExit x_way) nb
    (fun n => pk_le nb nb (fun _ => ⟨_, second ne 0 _ (by omega) (fun b hb => ?_)⟩) (fun h => absurd h (by omega)))
    (fun n i hi hn => pk_le nb i (fun h => absurd h (by omega)) (fun h => pk_eq i 0 (fun z => ⟨pk_in i 12 (by omega), nm_r (cd_fo_z (by omega) (by rw [if_pos z]; rfl)) (nm_r (nI_1 i) hn)⟩) (fun z => ⟨pk_in i 12 (by omega), nm_r (cd_fo_z (by omega) (by rw [if_neg z]; rfl)) (nm_r (nI_1 i) hn)⟩)))
  rw [cd_fo_in (by omega) (by omega), Nat.sub_zero]
  by_cases e : b = 0
  · rw [if_pos e]
    exact ⟨fun _ => Or.inl e, fun _ => by decide⟩
  · rw [if_neg e]
    exact ⟨fun z => absurd rfl z, fun z => by
      rcases z with z | ⟨f, f1, _⟩
      · exact absurd z e
      · omega⟩
end
end
section
/-- writing the row of path p leaves the rows before it -/
theorem cd_rw_keep {row len : Nat → Int32} {p n p' : Nat} {f : Nat → Int32} {z : Int32} {l : List Nat} (hl : l.length ≤ 12) (hp : p' < p) (h : cd_rw row len p' l) : cd_rw (cd_fo row (12 * p) n f) (upd len p z) p' l := by
  refine ⟨?_, fun i hi => ?_⟩
  · rw [pk_un (by omega)]; exact h.1
  · rw [cd_fo_out (by omega)]; exact h.2 i hi
section
variable {y_made y_blocks y_edges y_paths y_many y_lastX y_lastY y_lastBlocks : Int32} {y_op y_number y_kind y_target y_from y_to y_exit y_weight y_firstEdge y_tree y_back y_row y_length y_gone y_done y_went y_cut y_kept y_mark y_way y_tried y_stack : Nat → Int32}
variable {nb ne : Nat} {bk pf pb bg : Nat → Int32} {L : Nat → Prop} {rk G : Nat → Nat}
theorem cd_ykeep {post : SY → Prop} {p n : Nat} {q : Int32} (hq : q = nI n) (hp : p < 300) (hn : n ≤ 12) (h : post (y_made, y_blocks, y_edges, (nI (p + 1)), y_many, y_lastX, y_lastY, y_lastBlocks, y_op, y_number, y_kind, y_target, y_from, y_to, y_exit, y_weight, y_firstEdge, y_tree, y_back, (cd_fo y_row (12 * p) n y_way), (upd y_length p (nI n)), y_gone, y_done, y_went, y_cut, y_kept, y_mark, y_way, y_tried, y_stack)) : wpY_keep post (y_made, y_blocks, y_edges, (nI p), y_many, y_lastX, y_lastY, y_lastBlocks, y_op, y_number, y_kind, y_target, y_from, y_to, y_exit, y_weight, y_firstEdge, y_tree, y_back, y_row, y_length, y_gone, y_done, y_went, y_cut, y_kept, y_mark, y_way, y_tried, y_stack) q := by
  subst hq
  have c : ∀ i : Nat, 12 * nI p + nI i = nI (12 * p + i) := fun i => by rw [show (12 : Int32) = nI 12 from rfl, pk_mul, nI_add]
  exact cd_loop (fun m i => wY_keep_2 post (nI n) y_made y_blocks y_edges (nI p) y_many y_lastX y_lastY y_lastBlocks m (nI i) y_op y_number y_kind y_target y_from y_to y_exit y_weight y_firstEdge y_tree y_back (cd_fo y_row (12 * p) i y_way) y_length y_gone y_done y_went y_cut y_kept y_mark y_way y_tried y_stack) n
    (fun m => pk_le n n (fun _ => ⟨pk_in p 300 hp, nm_r (congrArg (fun q => upd y_length q (nI n)) (cd_cl (by omega))) (nm_r (nI_1 p) h)⟩) (fun h => absurd h (by omega)))
    (fun m i hi hm => pk_le n i (fun h => absurd h (by omega)) (fun _ => ⟨pk_in i 13 (by omega), pk_in (12 * p + i) 3600 (by omega) (c i), nm_r (cd_fo_u (c i) (by omega) (congrArg y_way (cd_cl (by omega)))) (nm_r (nI_1 i) hm)⟩))
theorem cd_enum0 (hnb : nb ≤ 12) (hfs : cd_fs bk nb + 1 ≤ ne) (hne : ne ≤ 37) (hkd : ∀ b, b < nb → y_kind (12 + b) = bk b ∧ (∃ k : Nat, k < 6 ∧ bk b = nI k) ∧ y_firstEdge b = nI (cd_fs bk b)) (hG : cd_PG nb bk y_to y_back L rk) (hN : cd_PN nb bk y_to y_back pf pb L rk G) (hL : ∀ b, b < nb → bg b ≠ 0 → L b) {b0 : Nat} (hb0 : b0 < nb) (hbg : bg b0 ≠ 0) (b : Nat) (l : List Nat) (hch : cd_ch bk y_to y_back b0 l b) (deep : ∀ t, rk t < rk b → ∀ l', cd_ch bk y_to y_back b0 l' t → (∀ q k, k + q = cd_ec (bk t) → ∀ (st tr wy row len : Nat → Int32) (p : Nat), st (l').length = nI t → tr (l').length = nI k → (∀ i (h : i < (l').length), wy i = nI (l')[i]) → p = cd_fp bg G b0 + cd_es pb (l') + cd_sm (cd_wt bk y_to y_back G t) k → p ≤ 300 → cd_PR nb p bk y_to y_back pb bg row len G →
      (cd_fp bg G b0 + cd_es pb (l') + G t ≤ 300 → ∃ st' tr' wy' row' len', (∀ i, i < (l').length → st' i = st i ∧ tr' i = tr i ∧ wy' i = wy i) ∧ cd_PR nb (cd_fp bg G b0 + cd_es pb (l') + G t) bk y_to y_back pb bg row' len' G ∧ ∀ post, (∃ n, wY_pathsFrom_16 post n (nI (l').length) y_made (nI nb) (nI ne) (nI (cd_fp bg G b0 + cd_es pb (l') + G t)) 0 y_lastX y_lastY y_lastBlocks y_op y_number y_kind y_target y_from y_to y_exit y_weight y_firstEdge y_tree y_back row' len' y_gone y_done y_went y_cut y_kept y_mark wy' tr' st') → ∃ n, wY_pathsFrom_16 post n (nI ((l').length + 1)) y_made (nI nb) (nI ne) (nI (p)) 0 y_lastX y_lastY y_lastBlocks y_op y_number y_kind y_target y_from y_to y_exit y_weight y_firstEdge y_tree y_back row len y_gone y_done y_went y_cut y_kept y_mark wy tr st) ∧
      (300 < cd_fp bg G b0 + cd_es pb (l') + G t → ∃ st' tr' wy' row' len', cd_PR nb 300 bk y_to y_back pb bg row' len' G ∧ ∀ post : SY → Prop, post (y_made, (nI nb), (nI ne), (nI (300)), 1, y_lastX, y_lastY, y_lastBlocks, y_op, y_number, y_kind, y_target, y_from, y_to, y_exit, y_weight, y_firstEdge, y_tree, y_back, row', len', y_gone, y_done, y_went, y_cut, y_kept, y_mark, wy', tr', st') → ∃ n, wY_pathsFrom_16 post n (nI ((l').length + 1)) y_made (nI nb) (nI ne) (nI (p)) 0 y_lastX y_lastY y_lastBlocks y_op y_number y_kind y_target y_from y_to y_exit y_weight y_firstEdge y_tree y_back row len y_gone y_done y_went y_cut y_kept y_mark wy tr st))) : ∀ q k, k + q = cd_ec (bk b) → ∀ (st tr wy row len : Nat → Int32) (p : Nat), st (l).length = nI b → tr (l).length = nI k → (∀ i (h : i < (l).length), wy i = nI (l)[i]) → p = cd_fp bg G b0 + cd_es pb (l) + cd_sm (cd_wt bk y_to y_back G b) k → p ≤ 300 → cd_PR nb p bk y_to y_back pb bg row len G →
      (cd_fp bg G b0 + cd_es pb (l) + G b ≤ 300 → ∃ st' tr' wy' row' len', (∀ i, i < (l).length → st' i = st i ∧ tr' i = tr i ∧ wy' i = wy i) ∧ cd_PR nb (cd_fp bg G b0 + cd_es pb (l) + G b) bk y_to y_back pb bg row' len' G ∧ ∀ post, (∃ n, wY_pathsFrom_16 post n (nI (l).length) y_made (nI nb) (nI ne) (nI (cd_fp bg G b0 + cd_es pb (l) + G b)) 0 y_lastX y_lastY y_lastBlocks y_op y_number y_kind y_target y_from y_to y_exit y_weight y_firstEdge y_tree y_back row' len' y_gone y_done y_went y_cut y_kept y_mark wy' tr' st') → ∃ n, wY_pathsFrom_16 post n (nI ((l).length + 1)) y_made (nI nb) (nI ne) (nI (p)) 0 y_lastX y_lastY y_lastBlocks y_op y_number y_kind y_target y_from y_to y_exit y_weight y_firstEdge y_tree y_back row len y_gone y_done y_went y_cut y_kept y_mark wy tr st) ∧
      (300 < cd_fp bg G b0 + cd_es pb (l) + G b → ∃ st' tr' wy' row' len', cd_PR nb 300 bk y_to y_back pb bg row' len' G ∧ ∀ post : SY → Prop, post (y_made, (nI nb), (nI ne), (nI (300)), 1, y_lastX, y_lastY, y_lastBlocks, y_op, y_number, y_kind, y_target, y_from, y_to, y_exit, y_weight, y_firstEdge, y_tree, y_back, row', len', y_gone, y_done, y_went, y_cut, y_kept, y_mark, wy', tr', st') → ∃ n, wY_pathsFrom_16 post n (nI ((l).length + 1)) y_made (nI nb) (nI ne) (nI (p)) 0 y_lastX y_lastY y_lastBlocks y_op y_number y_kind y_target y_from y_to y_exit y_weight y_firstEdge y_tree y_back row len y_gone y_done y_went y_cut y_kept y_mark wy tr st) := by
  have hfb := (cd_fs_b bk nb).2
  have hlb0 := hL b0 hb0 hbg
  have hrk0 := (hG.2 b0 hb0 hlb0).1
  obtain ⟨hb, hlb, hlen⟩ := cd_ch_len hG hnb l b0 b hb0 hlb0 hch
  obtain ⟨hkb, hk6, hfe⟩ := hkd b hb
  have hfsl := cd_fs_lt (kd := bk) hb
  have hGb : G b = cd_sm (cd_wt bk y_to y_back G b) (cd_ec (bk b)) := (hN b hb hlb).2.1
  have c1 : nI (l.length + 1) - 1 = nI l.length := nI_pred _
  have cl := cd_cl (n := l.length) (by omega)
  have c12 : (12 : Int32) + nI b = nI (12 + b) := nI_add 12 b
  have cc12 := cd_cl (n := 12 + b) (by omega)
  have cb := cd_cl (n := b) (by omega)
  have hecr := cd_ec_r (bk b)
  intro q
  induction q with
  | zero =>
    intro k hk st tr wy row len p hst htr hwy hp hp3 hPR
    have hkk : k = cd_ec (bk b) := by omega
    subst hkk
    rw [← hGb] at hp
    subst hp
    refine ⟨fun _ => ⟨st, tr, wy, row, len, fun i hi => ⟨rfl, rfl, rfl⟩, hPR, fun post ⟨n, hn⟩ => ⟨n + 1, ?_⟩⟩, fun h => absurd h (by omega)⟩
    refine pk_le (l.length + 1) 0 (fun h => absurd h (by omega)) (fun _ => br_t rfl ⟨pk_in l.length 13 (by omega) c1, ?_⟩)
    rw [c1, cl, hst]
    refine nm_e ⟨pk_in l.length 13 (by omega), ?_⟩
    rw [htr]
    refine nm_e ⟨pk_in (12 + b) 24 (by omega) c12, ?_⟩
    rw [c12, cc12, hkb]
    exact cd_yec hk6 (br_t rfl (nm_r (pk_m1 l.length) hn))
  | succ q ih =>
    intro k hk st tr wy row len p hst htr hwy hp hp3 hPR
    have hklt : k < cd_ec (bk b) := by omega
    obtain ⟨q1, q2, q3, q4⟩ := cd_pbv hG hN hnb hb hlb hklt
    have ce := cd_cl (n := cd_fs bk b + k) (by omega)
    have hexit : ∃ j, j < cd_ec (bk b) ∧ cd_fs bk b + k = cd_fs bk b + j := ⟨k, hklt, rfl⟩
    have hlen2 : (l ++ [cd_fs bk b + k]).length = l.length + 1 := by simp
    have hes : cd_es pb (l ++ [cd_fs bk b + k]) = cd_es pb l + cd_sm (cd_wt bk y_to y_back G b) k := by rw [cd_es_s, q1]
    have hsmk : cd_sm (cd_wt bk y_to y_back G b) (k + 1) = cd_sm (cd_wt bk y_to y_back G b) k + cd_wt bk y_to y_back G b k := rfl
    have hway : ∀ i (h : i < (l ++ [cd_fs bk b + k]).length), upd wy l.length (nI (cd_fs bk b + k)) i = nI (l ++ [cd_fs bk b + k])[i] := by
      intro i hi
      by_cases g : i = l.length
      · subst g; rw [pk_us]; exact congrArg nI (by simp)
      · rw [hlen2] at hi
        rw [pk_un g, hwy i (by omega)]
        exact congrArg nI (List.getElem_append_left (by omega)).symm
    -- the turn up to the edge
    have turn : ∀ (post : SY → Prop) n, ((y_back (cd_fs bk b + k) = 0 → (vp_in (nI (cd_fs bk b + k)) 37 ∧ ((0 ≤ y_to (cd_fs bk b + k) → (vp_in (nI (cd_fs bk b + k)) 37 ∧ (vp_in (nI (l.length + 1)) 13 ∧ ∀ s2, s2 = upd st (l.length + 1) (y_to (cd_fs bk b + k)) → (vp_in (nI (l.length + 1)) 13 ∧ ∀ t2, t2 = upd (upd tr l.length (nI (k + 1))) (l.length + 1) 0 → ∀ x2, x2 = nI (l.length + 1) + 1 → wY_pathsFrom_16 post n x2 y_made (nI nb) (nI ne) (nI (p)) 0 y_lastX y_lastY y_lastBlocks y_op y_number y_kind y_target y_from y_to y_exit y_weight y_firstEdge y_tree y_back row len y_gone y_done y_went y_cut y_kept y_mark (upd wy l.length (nI (cd_fs bk b + k))) t2 s2)))) ∧ (¬ 0 ≤ y_to (cd_fs bk b + k) → wY_pathsFrom_122 post (wY_pathsFrom_16 post n) (nI (l.length + 1)) y_made (nI nb) (nI ne) (nI (p)) 0 y_lastX y_lastY y_lastBlocks y_op y_number y_kind y_target y_from y_to y_exit y_weight y_firstEdge y_tree y_back row len y_gone y_done y_went y_cut y_kept y_mark (upd wy l.length (nI (cd_fs bk b + k))) (upd tr l.length (nI (k + 1))) st)))) ∧ (¬ y_back (cd_fs bk b + k) = 0 → wY_pathsFrom_122 post (wY_pathsFrom_16 post n) (nI (l.length + 1)) y_made (nI nb) (nI ne) (nI (p)) 0 y_lastX y_lastY y_lastBlocks y_op y_number y_kind y_target y_from y_to y_exit y_weight y_firstEdge y_tree y_back row len y_gone y_done y_went y_cut y_kept y_mark (upd wy l.length (nI (cd_fs bk b + k))) (upd tr l.length (nI (k + 1))) st)) → wY_pathsFrom_16 post (n + 1) (nI (l.length + 1)) y_made (nI nb) (nI ne) (nI (p)) 0 y_lastX y_lastY y_lastBlocks y_op y_number y_kind y_target y_from y_to y_exit y_weight y_firstEdge y_tree y_back row len y_gone y_done y_went y_cut y_kept y_mark wy tr st := by
      intro post n hh
      refine pk_le (l.length + 1) 0 (fun h => absurd h (by omega)) (fun _ => br_t rfl ⟨pk_in l.length 13 (by omega) c1, ?_⟩)
      rw [c1, cl, hst]
      refine nm_e ⟨pk_in l.length 13 (by omega), ?_⟩
      rw [htr]
      refine nm_e ⟨pk_in (12 + b) 24 (by omega) c12, ?_⟩
      rw [c12, cc12, hkb, cb]
      refine cd_yec hk6 (br_f (by rw [nI_eq (by omega) (by omega)]; omega) ⟨pk_in l.length 13 (by omega), pk_in l.length 13 (by omega), nm_r (e' := upd tr l.length (nI (k + 1))) (by rw [nI_1]) ⟨pk_in b 13 (by omega), nm_r (e' := nI (cd_fs bk b + k)) (by rw [hfe, nI_add]) ⟨pk_in l.length 13 (by omega), nm_e ⟨pk_in (cd_fs bk b + k) 37 (by omega), ?_⟩⟩⟩⟩)
      rw [ce, cd_cl (n := l.length + 1) (by omega)]
      exact hh
    by_cases hen : cd_en y_back y_to (cd_fs bk b + k)
    · have hwt := cd_wt1 (G := G) hen
      have hvp := cd_ch_vp l b0 b hch hexit hen
      have fin : ∀ (post : SY → Prop) n, wY_pathsFrom_122 post (wY_pathsFrom_16 post n) (nI (l.length + 1)) y_made (nI nb) (nI ne) (nI (p)) 0 y_lastX y_lastY y_lastBlocks y_op y_number y_kind y_target y_from y_to y_exit y_weight y_firstEdge y_tree y_back row len y_gone y_done y_went y_cut y_kept y_mark (upd wy l.length (nI (cd_fs bk b + k))) (upd tr l.length (nI (k + 1))) st → wY_pathsFrom_16 post (n + 1) (nI (l.length + 1)) y_made (nI nb) (nI ne) (nI (p)) 0 y_lastX y_lastY y_lastBlocks y_op y_number y_kind y_target y_from y_to y_exit y_weight y_firstEdge y_tree y_back row len y_gone y_done y_went y_cut y_kept y_mark wy tr st := by
        intro post n h122
        refine turn post n (br_c (fun z => ⟨pk_in (cd_fs bk b + k) 37 (by omega), br_f ?_ h122⟩) (fun _ => h122))
        rcases hen with g | g
        · exact absurd z g
        · rw [g]; decide
      by_cases h3 : p = 300
      · subst h3
        refine ⟨fun h => absurd h (by omega), fun _ => ⟨st, upd tr l.length (nI (k + 1)), upd wy l.length (nI (cd_fs bk b + k)), row, len, hPR, fun post hpost => ⟨1 + 1, fin post 1 ?_⟩⟩⟩
        exact br_t rfl ⟨rfl, rfl, br_f (by decide) (pk_le (l.length + 1) 0 (fun h => absurd h (by omega)) (fun _ => br_f (by decide) hpost))⟩
      · have hPR2 : cd_PR nb (p + 1) bk y_to y_back pb bg (cd_fo row (12 * p) (l.length + 1) (upd wy l.length (nI (cd_fs bk b + k)))) (upd len p (nI (l.length + 1))) G := by
          intro p' hp'
          by_cases g : p' = p
          · subst g
            refine ⟨b0, l ++ [cd_fs bk b + k], hb0, hbg, hvp, by omega, ?_, fun i hi => ?_⟩
            · rw [pk_us, hlen2]
            · rw [hlen2] at hi
              rw [cd_fo_k hi]
              exact hway i (by rw [hlen2]; exact hi)
          · obtain ⟨b', l', g1, g2, g3, g4, g5⟩ := hPR p' (by omega)
            have := cd_vp_len hG hnb l' b' g1 (hL b' g1 g2) g3
            have := (hG.2 b' g1 (hL b' g1 g2)).1
            exact ⟨b', l', g1, g2, g3, g4, cd_rw_keep (by omega) (by omega) g5⟩
        have I2 := ih (k + 1) (by omega) st (upd tr l.length (nI (k + 1))) (upd wy l.length (nI (cd_fs bk b + k))) (cd_fo row (12 * p) (l.length + 1) (upd wy l.length (nI (cd_fs bk b + k)))) (upd len p (nI (l.length + 1))) (p + 1) hst pk_us (fun i h => by rw [pk_un (by omega)]; exact hwy i h) (by omega) (by omega) hPR2
        have cont : ∀ post : SY → Prop, (∃ n, wY_pathsFrom_16 post n (nI (l.length + 1)) y_made (nI nb) (nI ne) (nI (p + 1)) 0 y_lastX y_lastY y_lastBlocks y_op y_number y_kind y_target y_from y_to y_exit y_weight y_firstEdge y_tree y_back (cd_fo row (12 * p) (l.length + 1) (upd wy l.length (nI (cd_fs bk b + k)))) (upd len p (nI (l.length + 1))) y_gone y_done y_went y_cut y_kept y_mark (upd wy l.length (nI (cd_fs bk b + k))) (upd tr l.length (nI (k + 1))) st) → ∃ n, wY_pathsFrom_16 post n (nI (l.length + 1)) y_made (nI nb) (nI ne) (nI (p)) 0 y_lastX y_lastY y_lastBlocks y_op y_number y_kind y_target y_from y_to y_exit y_weight y_firstEdge y_tree y_back row len y_gone y_done y_went y_cut y_kept y_mark wy tr st := by
          intro post hh
          obtain ⟨n, hn⟩ := hh
          refine ⟨n + 1, fin post n (pk_eq p 300 (fun z => absurd z h3) (fun _ => ⟨rfl, rfl, br_t rfl (cd_ykeep rfl (by omega) (by omega) hn)⟩))⟩
        refine ⟨fun hle => ?_, fun hgt => ?_⟩
        · obtain ⟨st', tr', wy', row', len', r1, r2, r3⟩ := I2.1 hle
          refine ⟨st', tr', wy', row', len', fun i hi => ?_, r2, fun post hh => cont post (r3 post hh)⟩
          obtain ⟨a1, a2, a3⟩ := r1 i hi
          rw [pk_un (by omega)] at a2 a3
          exact ⟨a1, a2, a3⟩
        · obtain ⟨st', tr', wy', row', len', r1, r2⟩ := I2.2 hgt
          exact ⟨st', tr', wy', row', len', r1, fun post hh => cont post (r2 post hh)⟩
    · obtain ⟨t, ht, et, ct, lt, rt, ew, hib⟩ := cd_nx1 (G := G) hG hnb hb hlb hklt hen
      have hch2 := cd_ch_s l b0 b hch hexit hen
      rw [ct] at hch2
      have hect := cd_ec_r (bk t)
      have D := deep t rt (l ++ [cd_fs bk b + k]) hch2 (cd_ec (bk t)) 0 (by omega) (upd st (l.length + 1) (nI t)) (upd (upd tr l.length (nI (k + 1))) (l.length + 1) 0) (upd wy l.length (nI (cd_fs bk b + k))) row len p (by rw [hlen2]; exact pk_us) (by rw [hlen2]; exact pk_us) hway (by show _ = _ + 0; omega) hp3 hPR
      rw [hlen2, hes] at D
      have push : ∀ post : SY → Prop, (∃ n, wY_pathsFrom_16 post n (nI (l.length + 1 + 1)) y_made (nI nb) (nI ne) (nI (p)) 0 y_lastX y_lastY y_lastBlocks y_op y_number y_kind y_target y_from y_to y_exit y_weight y_firstEdge y_tree y_back row len y_gone y_done y_went y_cut y_kept y_mark (upd wy l.length (nI (cd_fs bk b + k))) (upd (upd tr l.length (nI (k + 1))) (l.length + 1) 0) (upd st (l.length + 1) (nI t))) → ∃ n, wY_pathsFrom_16 post n (nI (l.length + 1)) y_made (nI nb) (nI ne) (nI (p)) 0 y_lastX y_lastY y_lastBlocks y_op y_number y_kind y_target y_from y_to y_exit y_weight y_firstEdge y_tree y_back row len y_gone y_done y_went y_cut y_kept y_mark wy tr st := by
        intro post hh
        obtain ⟨n, hn⟩ := hh
        refine ⟨n + 1, turn post n (br_t hib ⟨pk_in (cd_fs bk b + k) 37 (by omega), br_t ?_ ⟨pk_in (cd_fs bk b + k) 37 (by omega), pk_in (l.length + 1) 13 (by omega), ?_⟩⟩)⟩
        · rw [et]; exact nI_pos' (by omega)
        · rw [et]
          exact nm_e ⟨pk_in (l.length + 1) 13 (by omega), nm_e (nm_r (nI_1 _) hn)⟩
      by_cases hle1 : cd_fp bg G b0 + (cd_es pb l + cd_sm (cd_wt bk y_to y_back G b) k) + G t ≤ 300
      · obtain ⟨st1, tr1, wy1, row1, len1, a1, a2, a3⟩ := D.1 hle1
        have I2 := ih (k + 1) (by omega) st1 tr1 wy1 row1 len1 (cd_fp bg G b0 + (cd_es pb l + cd_sm (cd_wt bk y_to y_back G b) k) + G t) (by rw [(a1 l.length (by omega)).1, pk_un (by omega)]; exact hst) (by rw [(a1 l.length (by omega)).2.1, pk_un (by omega), pk_us]) (fun i h => by rw [(a1 i (by omega)).2.2, pk_un (by omega)]; exact hwy i h) (by omega) hle1 a2
        refine ⟨fun hle => ?_, fun hgt => ?_⟩
        · obtain ⟨st', tr', wy', row', len', r1, r2, r3⟩ := I2.1 hle
          refine ⟨st', tr', wy', row', len', fun i hi => ?_, r2, fun post hh => push post (a3 post (r3 post hh))⟩
          obtain ⟨d1, d2, d3⟩ := a1 i (by omega)
          obtain ⟨e1, e2, e3⟩ := r1 i hi
          rw [pk_un (by omega)] at d1 d3
          rw [pk_un (by omega), pk_un (by omega)] at d2
          exact ⟨e1.trans d1, e2.trans d2, e3.trans d3⟩
        · obtain ⟨st', tr', wy', row', len', r1, r2⟩ := I2.2 hgt
          exact ⟨st', tr', wy', row', len', r1, fun post hh => push post (a3 post (r2 post hh))⟩
      · obtain ⟨st1, tr1, wy1, row1, len1, a1, a2⟩ := D.2 (by omega)
        refine ⟨fun h => absurd h (by omega), fun _ => ⟨st1, tr1, wy1, row1, len1, a1, fun post hh => push post (a2 post hh)⟩⟩
theorem cd_enum (hnb : nb ≤ 12) (hfs : cd_fs bk nb + 1 ≤ ne) (hne : ne ≤ 37) (hkd : ∀ b, b < nb → y_kind (12 + b) = bk b ∧ (∃ k : Nat, k < 6 ∧ bk b = nI k) ∧ y_firstEdge b = nI (cd_fs bk b)) (hG : cd_PG nb bk y_to y_back L rk) (hN : cd_PN nb bk y_to y_back pf pb L rk G) (hL : ∀ b, b < nb → bg b ≠ 0 → L b) {b0 : Nat} (hb0 : b0 < nb) (hbg : bg b0 ≠ 0) :
    ∀ r b l, rk b ≤ r → cd_ch bk y_to y_back b0 l b → ∀ q k, k + q = cd_ec (bk b) → ∀ (st tr wy row len : Nat → Int32) (p : Nat), st l.length = nI b → tr l.length = nI k → (∀ i (h : i < l.length), wy i = nI l[i]) → p = cd_fp bg G b0 + cd_es pb l + cd_sm (cd_wt bk y_to y_back G b) k → p ≤ 300 → cd_PR nb p bk y_to y_back pb bg row len G →
      (cd_fp bg G b0 + cd_es pb l + G b ≤ 300 → ∃ st' tr' wy' row' len', (∀ i, i < l.length → st' i = st i ∧ tr' i = tr i ∧ wy' i = wy i) ∧ cd_PR nb (cd_fp bg G b0 + cd_es pb l + G b) bk y_to y_back pb bg row' len' G ∧ ∀ post, (∃ n, wY_pathsFrom_16 post n (nI l.length) y_made (nI nb) (nI ne) (nI (cd_fp bg G b0 + cd_es pb l + G b)) 0 y_lastX y_lastY y_lastBlocks y_op y_number y_kind y_target y_from y_to y_exit y_weight y_firstEdge y_tree y_back row' len' y_gone y_done y_went y_cut y_kept y_mark wy' tr' st') → ∃ n, wY_pathsFrom_16 post n (nI (l.length + 1)) y_made (nI nb) (nI ne) (nI (p)) 0 y_lastX y_lastY y_lastBlocks y_op y_number y_kind y_target y_from y_to y_exit y_weight y_firstEdge y_tree y_back row len y_gone y_done y_went y_cut y_kept y_mark wy tr st) ∧
      (300 < cd_fp bg G b0 + cd_es pb l + G b → ∃ st' tr' wy' row' len', cd_PR nb 300 bk y_to y_back pb bg row' len' G ∧ ∀ post : SY → Prop, post (y_made, (nI nb), (nI ne), (nI (300)), 1, y_lastX, y_lastY, y_lastBlocks, y_op, y_number, y_kind, y_target, y_from, y_to, y_exit, y_weight, y_firstEdge, y_tree, y_back, row', len', y_gone, y_done, y_went, y_cut, y_kept, y_mark, wy', tr', st') → ∃ n, wY_pathsFrom_16 post n (nI (l.length + 1)) y_made (nI nb) (nI ne) (nI (p)) 0 y_lastX y_lastY y_lastBlocks y_op y_number y_kind y_target y_from y_to y_exit y_weight y_firstEdge y_tree y_back row len y_gone y_done y_went y_cut y_kept y_mark wy tr st) := by
  have hfb := (cd_fs_b bk nb).2
  have hlb0 := hL b0 hb0 hbg
  have hrk0 := (hG.2 b0 hb0 hlb0).1
  intro r
  induction r with
  | zero =>
    intro b l hr hch
    exact cd_enum0 hnb hfs hne hkd hG hN hL hb0 hbg b l hch (fun t ht => absurd ht (by omega))
  | succ r ih =>
    intro b l hr hch
    exact cd_enum0 hnb hfs hne hkd hG hN hL hb0 hbg b l hch (fun t ht l' hch' => ih t l' (by omega) hch')
/-- Y's paths from one begin -/
theorem cd_ypf (hnb : nb ≤ 12) (hfs : cd_fs bk nb + 1 ≤ ne) (hne : ne ≤ 37) (hkd : ∀ b, b < nb → y_kind (12 + b) = bk b ∧ (∃ k : Nat, k < 6 ∧ bk b = nI k) ∧ y_firstEdge b = nI (cd_fs bk b)) (hG : cd_PG nb bk y_to y_back L rk) (hN : cd_PN nb bk y_to y_back pf pb L rk G) (hL : ∀ b, b < nb → bg b ≠ 0 → L b) {b0 : Nat} (hb0 : b0 < nb) (hbg : bg b0 ≠ 0) (row len wy tr st : Nat → Int32) (hp3 : cd_fp bg G b0 ≤ 300) (hPR : cd_PR nb (cd_fp bg G b0) bk y_to y_back pb bg row len G) :
    (cd_fp bg G b0 + G b0 ≤ 300 → ∃ st' tr' wy' row' len', cd_PR nb (cd_fp bg G b0 + G b0) bk y_to y_back pb bg row' len' G ∧ ∀ post : SY → Prop, post (y_made, (nI nb), (nI ne), (nI (cd_fp bg G b0 + G b0)), 0, y_lastX, y_lastY, y_lastBlocks, y_op, y_number, y_kind, y_target, y_from, y_to, y_exit, y_weight, y_firstEdge, y_tree, y_back, row', len', y_gone, y_done, y_went, y_cut, y_kept, y_mark, wy', tr', st') → wpY_pathsFrom post (y_made, (nI nb), (nI ne), (nI (cd_fp bg G b0)), 0, y_lastX, y_lastY, y_lastBlocks, y_op, y_number, y_kind, y_target, y_from, y_to, y_exit, y_weight, y_firstEdge, y_tree, y_back, row, len, y_gone, y_done, y_went, y_cut, y_kept, y_mark, wy, tr, st) (nI b0)) ∧
    (300 < cd_fp bg G b0 + G b0 → ∃ st' tr' wy' row' len', cd_PR nb 300 bk y_to y_back pb bg row' len' G ∧ ∀ post : SY → Prop, post (y_made, (nI nb), (nI ne), (nI (300)), 1, y_lastX, y_lastY, y_lastBlocks, y_op, y_number, y_kind, y_target, y_from, y_to, y_exit, y_weight, y_firstEdge, y_tree, y_back, row', len', y_gone, y_done, y_went, y_cut, y_kept, y_mark, wy', tr', st') → wpY_pathsFrom post (y_made, (nI nb), (nI ne), (nI (cd_fp bg G b0)), 0, y_lastX, y_lastY, y_lastBlocks, y_op, y_number, y_kind, y_target, y_from, y_to, y_exit, y_weight, y_firstEdge, y_tree, y_back, row, len, y_gone, y_done, y_went, y_cut, y_kept, y_mark, wy, tr, st) (nI b0)) := by
  have hch : cd_ch bk y_to y_back b0 [] b0 := by unfold cd_ch; rfl
  have hecr := cd_ec_r (bk b0)
  have E := cd_enum (y_made := y_made) (y_lastX := y_lastX) (y_lastY := y_lastY) (y_lastBlocks := y_lastBlocks) (y_op := y_op) (y_number := y_number) (y_target := y_target) (y_from := y_from) (y_exit := y_exit) (y_weight := y_weight) (y_tree := y_tree) (y_gone := y_gone) (y_done := y_done) (y_went := y_went) (y_cut := y_cut) (y_kept := y_kept) (y_mark := y_mark) hnb hfs hne hkd hG hN hL hb0 hbg (rk b0) b0 [] (Nat.le_refl _) hch (cd_ec (bk b0)) 0 (by omega) (upd st 0 (nI b0)) (upd tr 0 0) wy row len (cd_fp bg G b0) pk_us pk_us (fun i h => absurd h (by simp)) (by show _ = _ + 0 + 0; omega) hp3 hPR
  have z : cd_fp bg G b0 + cd_es pb [] + G b0 = cd_fp bg G b0 + G b0 := by show _ + 0 + _ = _; omega
  rw [z] at E
  refine ⟨fun hle => ?_, fun hgt => ?_⟩
  · obtain ⟨st', tr', wy', row', len', r1, r2, r3⟩ := E.1 hle
    exact ⟨st', tr', wy', row', len', r2, fun post hpost => nm_e (nm_e (r3 post ⟨1, pk_le 0 0 (fun _ => hpost) (fun h => absurd h (by omega))⟩))⟩
  · obtain ⟨st', tr', wy', row', len', r1, r2⟩ := E.2 hgt
    exact ⟨st', tr', wy', row', len', r1, fun post hpost => nm_e (nm_e (r2 post hpost))⟩
/-- does a block begin paths -/
theorem cd_ybeg {post : SY → Prop} {J : Int32 → Int32 → Int32 → Int32 → Int32 → Int32 → Int32 → Int32 → Int32 → (Nat → Int32) → (Nat → Int32) → (Nat → Int32) → (Nat → Int32) → (Nat → Int32) → (Nat → Int32) → (Nat → Int32) → (Nat → Int32) → (Nat → Int32) → (Nat → Int32) → (Nat → Int32) → (Nat → Int32) → (Nat → Int32) → (Nat → Int32) → (Nat → Int32) → (Nat → Int32) → (Nat → Int32) → (Nat → Int32) → (Nat → Int32) → (Nat → Int32) → (Nat → Int32) → (Nat → Int32) → Prop} {b : Nat} (hne : ne ≤ 37) (hb : b < 12)
    (h0 : ¬ (b = 0 ∨ ∃ e, e < ne ∧ y_back e ≠ 0 ∧ y_to e = nI b) → ∀ x1, x1 = nI b + 1 → J x1 y_made y_blocks (nI ne) y_paths y_many y_lastX y_lastY y_lastBlocks y_op y_number y_kind y_target y_from y_to y_exit y_weight y_firstEdge y_tree y_back y_row y_length y_gone y_done y_went y_cut y_kept y_mark y_way y_tried y_stack)
    (h1 : (b = 0 ∨ ∃ e, e < ne ∧ y_back e ≠ 0 ∧ y_to e = nI b) → wpY_pathsFrom (fun u => match u with | (u_made, u_blocks, u_edges, u_paths, u_many, u_lastX, u_lastY, u_lastBlocks, u_op, u_number, u_kind, u_target, u_from, u_to, u_exit, u_weight, u_firstEdge, u_tree, u_back, u_row, u_length, u_gone, u_done, u_went, u_cut, u_kept, u_mark, u_way, u_tried, u_stack) => ∀ x1, x1 = nI b + 1 → J x1 u_made u_blocks u_edges u_paths u_many u_lastX u_lastY u_lastBlocks u_op u_number u_kind u_target u_from u_to u_exit u_weight u_firstEdge u_tree u_back u_row u_length u_gone u_done u_went u_cut u_kept u_mark u_way u_tried u_stack) (y_made, y_blocks, (nI ne), y_paths, y_many, y_lastX, y_lastY, y_lastBlocks, y_op, y_number, y_kind, y_target, y_from, y_to, y_exit, y_weight, y_firstEdge, y_tree, y_back, y_row, y_length, y_gone, y_done, y_went, y_cut, y_kept, y_mark, y_way, y_tried, y_stack) (nI b)) :
    ∀ d e (x2 : Int32), e + d = ne → ((x2 = 0 ∧ ¬ (b = 0 ∨ ∃ f, f < e ∧ y_back f ≠ 0 ∧ y_to f = nI b)) ∨ (x2 = 1 ∧ (b = 0 ∨ ∃ f, f < e ∧ y_back f ≠ 0 ∧ y_to f = nI b))) → wY_findPaths_32 post J (nI b) y_made y_blocks (nI ne) y_paths y_many y_lastX y_lastY y_lastBlocks y_op y_number y_kind y_target y_from y_to y_exit y_weight y_firstEdge y_tree y_back y_row y_length y_gone y_done y_went y_cut y_kept y_mark y_way y_tried y_stack (d + 1) x2 (nI e) := by
  intro d
  induction d with
  | zero =>
    intro e x2 he hx
    have : e = ne := by omega
    subst this
    refine pk_le e e (fun _ => ?_) (fun h => absurd h (by omega))
    rcases hx with ⟨rfl, h⟩ | ⟨rfl, h⟩
    · exact br_t rfl (h0 h)
    · exact br_f (by decide) (h1 h)
  | succ d ih =>
    intro e x2 he hx
    have more : (y_back e = 0 ∨ ¬ y_to e = nI b) → ((x2 = 0 ∧ ¬ (b = 0 ∨ ∃ f, f < e + 1 ∧ y_back f ≠ 0 ∧ y_to f = nI b)) ∨ (x2 = 1 ∧ (b = 0 ∨ ∃ f, f < e + 1 ∧ y_back f ≠ 0 ∧ y_to f = nI b))) := by
      intro hz
      rcases hx with ⟨h1, h⟩ | ⟨h1, h⟩
      · refine Or.inl ⟨h1, ?_⟩
        rintro (g | ⟨f, f1, f2, f3⟩)
        · exact h (Or.inl g)
        · by_cases g : f = e
          · subst g
            rcases hz with hz | hz
            · exact f2 hz
            · exact hz f3
          · exact h (Or.inr ⟨f, by omega, f2, f3⟩)
      · refine Or.inr ⟨h1, ?_⟩
        rcases h with g | ⟨f, f1, f2, f3⟩
        · exact Or.inl g
        · exact Or.inr ⟨f, by omega, f2, f3⟩
    have o0 : x2 ||| 0 = x2 := by
      rcases hx with ⟨rfl, _⟩ | ⟨rfl, _⟩ <;> decide
    have o1 : x2 ||| 1 = 1 := by
      rcases hx with ⟨rfl, _⟩ | ⟨rfl, _⟩ <;> decide
    refine pk_le ne e (fun h => absurd h (by omega)) (fun _ => ⟨pk_in e 37 (by omega), ?_⟩)
    rw [cd_cl (n := e) (by omega)]
    refine br_c (fun z => nm_r o0 (nm_r (nI_1 e) (ih (e + 1) x2 (by omega) (more (Or.inl z))))) (fun z => ⟨pk_in e 37 (by omega), br_c (fun y => nm_r o1 (nm_r (nI_1 e) (ih (e + 1) 1 (by omega) (Or.inr ⟨rfl, Or.inr ⟨e, by omega, z, y⟩⟩)))) (fun y => nm_r o0 (nm_r (nI_1 e) (ih (e + 1) x2 (by omega) (more (Or.inr y)))))⟩)
theorem cd_yfp (hnb : nb ≤ 12) (hfs : cd_fs bk nb + 1 ≤ ne) (hne : ne ≤ 37) (hkd : ∀ b, b < nb → y_kind (12 + b) = bk b ∧ (∃ k : Nat, k < 6 ∧ bk b = nI k) ∧ y_firstEdge b = nI (cd_fs bk b)) (hG : cd_PG nb bk y_to y_back L rk) (hN : cd_PN nb bk y_to y_back pf pb L rk G) (hL : ∀ b, b < nb → bg b ≠ 0 → L b) (hPB : cd_PB nb ne y_to y_back bg) {post : SY → Prop}
    (hp : ∀ ny mn row len wy tr st, ((mn = 0 ∧ ny = cd_fp bg G nb ∧ cd_fp bg G nb ≤ 300) ∨ (¬ mn = 0 ∧ ny = 300 ∧ 300 < cd_fp bg G nb)) → cd_PR nb ny bk y_to y_back pb bg row len G → post (y_made, (nI nb), (nI ne), (nI (ny)), mn, y_lastX, y_lastY, y_lastBlocks, y_op, y_number, y_kind, y_target, y_from, y_to, y_exit, y_weight, y_firstEdge, y_tree, y_back, row, len, y_gone, y_done, y_went, y_cut, y_kept, y_mark, wy, tr, st)) : wpY_findPaths post (y_made, (nI nb), (nI ne), y_paths, y_many, y_lastX, y_lastY, y_lastBlocks, y_op, y_number, y_kind, y_target, y_from, y_to, y_exit, y_weight, y_firstEdge, y_tree, y_back, y_row, y_length, y_gone, y_done, y_went, y_cut, y_kept, y_mark, y_way, y_tried, y_stack) := by
  have H : ∀ d b ny mn row len wy tr st, b + d = nb → ((mn = 0 ∧ ny = cd_fp bg G b ∧ cd_fp bg G b ≤ 300) ∨ (¬ mn = 0 ∧ ny = 300 ∧ 300 < cd_fp bg G b)) → cd_PR nb ny bk y_to y_back pb bg row len G → wY_findPaths_12 post (d + 1) (nI b) y_made (nI nb) (nI ne) (nI (ny)) mn y_lastX y_lastY y_lastBlocks y_op y_number y_kind y_target y_from y_to y_exit y_weight y_firstEdge y_tree y_back row len y_gone y_done y_went y_cut y_kept y_mark wy tr st := by
    intro d
    induction d with
    | zero =>
      intro b ny mn row len wy tr st hb hm hR
      have : b = nb := by omega
      subst this
      exact pk_le b b (fun _ => hp ny mn row len wy tr st hm hR) (fun h => absurd h (by omega))
    | succ d ih =>
      intro b ny mn row len wy tr st hb hm hR
      have hbn : b < nb := by omega
      have K := fun (x2 : Int32) => cd_ybeg (post := post) (J := wY_findPaths_12 post (d + 1)) (ne := ne) (b := b) (y_made := y_made) (y_blocks := nI nb) (y_paths := nI ny) (y_many := mn) (y_lastX := y_lastX) (y_lastY := y_lastY) (y_lastBlocks := y_lastBlocks) (y_op := y_op) (y_number := y_number) (y_kind := y_kind) (y_target := y_target) (y_from := y_from) (y_to := y_to) (y_exit := y_exit) (y_weight := y_weight) (y_firstEdge := y_firstEdge) (y_tree := y_tree) (y_back := y_back) (y_row := row) (y_length := len) (y_gone := y_gone) (y_done := y_done) (y_went := y_went) (y_cut := y_cut) (y_kept := y_kept) (y_mark := y_mark) (y_way := wy) (y_tried := tr) (y_stack := st) hne (by omega) (fun hno => nm_r (nI_1 b) (ih (b + 1) ny mn row len wy tr st (by omega) (by
          have e : cd_fp bg G (b + 1) = cd_fp bg G b := by
            show cd_sm _ b + (if bg b = 0 then 0 else G b) = _
            rw [if_pos (Decidable.byContradiction (fun z => hno ((hPB b hbn).mp z)))]; rfl
          rw [e]; exact hm) hR)) (fun hyes => by
          have hbg := (hPB b hbn).mpr hyes
          have e : cd_fp bg G (b + 1) = cd_fp bg G b + G b := by
            show cd_sm _ b + (if bg b = 0 then 0 else G b) = _
            rw [if_neg hbg]; rfl
          rcases hm with ⟨rfl, rfl, h3⟩ | ⟨h1, rfl, h3⟩
          · have P := cd_ypf (y_made := y_made) (y_lastX := y_lastX) (y_lastY := y_lastY) (y_lastBlocks := y_lastBlocks) (y_op := y_op) (y_number := y_number) (y_target := y_target) (y_from := y_from) (y_exit := y_exit) (y_weight := y_weight) (y_tree := y_tree) (y_gone := y_gone) (y_done := y_done) (y_went := y_went) (y_cut := y_cut) (y_kept := y_kept) (y_mark := y_mark) hnb hfs hne hkd hG hN hL hbn hbg row len wy tr st h3 hR
            by_cases hle : cd_fp bg G b + G b ≤ 300
            · obtain ⟨st', tr', wy', row', len', r1, r2⟩ := P.1 hle
              exact r2 _ (nm_r (nI_1 b) (ih (b + 1) _ 0 row' len' wy' tr' st' (by omega) (Or.inl ⟨rfl, e.symm, by omega⟩) r1))
            · obtain ⟨st', tr', wy', row', len', r1, r2⟩ := P.2 (by omega)
              exact r2 _ (nm_r (nI_1 b) (ih (b + 1) _ 1 row' len' wy' tr' st' (by omega) (Or.inr ⟨by decide, rfl, by omega⟩) r1))
          · exact nm_e (nm_e ⟨1, pk_le 1 0 (fun h => absurd h (by omega)) (fun _ => br_f h1 (nm_r (nI_1 b) (ih (b + 1) _ mn row len wy _ _ (by omega) (Or.inr ⟨h1, rfl, by omega⟩) hR)))⟩)) ne 0 x2 (by omega)
      refine pk_le nb b (fun h => absurd h (by omega)) (fun _ => pk_eq b 0 (fun z => ⟨_, K 1 (Or.inr ⟨rfl, Or.inl z⟩)⟩) (fun z => ⟨_, K 0 (Or.inl ⟨rfl, ?_⟩)⟩))
      rintro (g | ⟨f, f1, _⟩)
      · exact z g
      · omega
  exact Exists.intro (nb + 1) (H nb 0 0 0 y_row y_length y_way y_tried y_stack (by omega) (Or.inl ⟨rfl, rfl, Nat.zero_le _⟩) (fun p hp => absurd hp (by omega)))
end
end
section
theorem i_vc_build {k : Nat} {u : SX} {v : SY} (I : i_Rel k u v) (hk : k + 6 ≤ 3072) : wpX_build (fun r u' => wpY_build (fun r' v' => r' = r ∧ i_Rel (k + 6) u' v') v) u := by
  have I' := i_up I
  obtain ⟨x_blocks, x_builtBlocks, x_edges, x_paths, x_runX, x_runY, x_runDone, x_ops, x_operands, x_kinds, x_targets, x_builtOps, x_builtOperands, x_builtKinds, x_firstEdge, x_edgeFrom, x_edgeExit, x_edgeTo, x_edgeWeight, x_inTree, x_isBack, x_beginsPaths, x_firstPath, x_pathsFrom, x_pathsBefore, x_counts, x_dumped, x_dumpKept, x_looked, x_joined, x_met, x_nextExit, x_way⟩ := u
  obtain ⟨y_made, y_blocks, y_edges, y_paths, y_many, y_lastX, y_lastY, y_lastBlocks, y_op, y_number, y_kind, y_target, y_from, y_to, y_exit, y_weight, y_firstEdge, y_tree, y_back, y_row, y_length, y_gone, y_done, y_went, y_cut, y_kept, y_mark, y_way, y_tried, y_stack⟩ := v
  obtain ⟨n, nb, ne, np, rfl, rfl, rfl, rfl, rfl, rfl, rfl, rfl, rfl, rfl, rfl, rfl, rfl, rfl, rfl, rfl, rfl, rfl, hD, hB, hC, hK, hP⟩ := I
  have hn : n ≤ 12 := hD.1
  have none : (n = 0 ∨ ¬ cd_at n x_kinds x_targets) → wpY_build (fun r' v' => r' = -1 ∧ i_Rel (k + 6) ((nI n), (nI nb), (nI ne), (nI np), x_runX, x_runY, x_runDone, x_ops, x_operands, x_kinds, x_targets, x_builtOps, x_builtOperands, x_builtKinds, x_firstEdge, x_edgeFrom, x_edgeExit, x_edgeTo, x_edgeWeight, x_inTree, x_isBack, x_beginsPaths, x_firstPath, x_pathsFrom, x_pathsBefore, x_counts, x_dumped, x_dumpKept, x_looked, x_joined, x_met, x_nextExit, x_way) v') ((nI n), (nI nb), (nI ne), y_paths, y_many, x_runX, x_runY, x_runDone, y_op, y_number, y_kind, y_target, x_edgeFrom, x_edgeTo, x_edgeExit, x_edgeWeight, x_firstEdge, x_inTree, x_isBack, y_row, y_length, y_gone, y_done, y_went, y_cut, x_dumpKept, y_mark, y_way, y_tried, y_stack) := by
    intro h
    unfold wpY_build
    dsimp only
    refine cd_ywhole hD (fun h0 hat => ?_) (fun _ => br_t rfl ⟨rfl, I'⟩)
    rcases h with h | h
    · omega
    · exact absurd hat h
  unfold wpX_build
  dsimp only
  refine pk_eq n 0 (fun hz => none (Or.inl hz)) (fun hz => cd_xall hD (fun hat => br_f (by decide) ?_) (fun hno => br_t rfl (none (Or.inr hno))))
  have hbk : ∀ b, b < n → cd_fo x_builtKinds 0 n x_kinds b = x_kinds b := fun b hb => cd_fo_in (by omega) (by omega)
  have hm36 := (cd_fs_b (cd_fo x_builtKinds 0 n x_kinds) n).2
  refine cd_xcopy hn ?_
  dsimp only
  refine cd_xlist hn ?_
  dsimp only
  obtain ⟨BK, hBK⟩ : ∃ f, f = cd_fo x_builtKinds 0 n x_kinds := ⟨_, rfl⟩
  rw [← hBK] at hbk hm36
  rw [← hBK]
  have hto : ∀ e, e < cd_fs BK n + 1 → cd_fo x_edgeTo 0 (cd_fs BK n + 1) (cd_eT BK x_targets n) e = -1 ∨ ∃ t : Nat, t < n ∧ cd_fo x_edgeTo 0 (cd_fs BK n + 1) (cd_eT BK x_targets n) e = nI t := by
    intro e he
    rw [cd_fo_in (by omega) (by omega), Nat.sub_zero]
    by_cases g : e < cd_fs BK n
    · obtain ⟨b, j, h1, h2, h3⟩ := cd_ewh n e g
      rw [h3, cd_eTv h1 h2]
      by_cases hz0 : x_kinds b = 0
      · have he1 : cd_ec (BK b) = 1 := by rw [hbk b h1, hz0]; decide
        have hj0 : j = 0 := by omega
        subst hj0
        exact Or.inl ((hD.2.2 b h1).2.1 hz0)
      · rw [hbk b h1] at h2
        exact Or.inr (hat b h1 hz0 j h2)
    · have : e = cd_fs BK n := by omega
      rw [this, cd_eTn]
      exact Or.inr ⟨0, by omega, rfl⟩
  have hfr : ∀ e, e < cd_fs BK n + 1 → cd_fo x_edgeFrom 0 (cd_fs BK n + 1) (cd_eF BK n) e = -1 ∨ ∃ t : Nat, t < n ∧ cd_fo x_edgeFrom 0 (cd_fs BK n + 1) (cd_eF BK n) e = nI t := by
    intro e he
    rw [cd_fo_in (by omega) (by omega), Nat.sub_zero]
    by_cases g : e < cd_fs BK n
    · obtain ⟨b, j, h1, h2, h3⟩ := cd_ewh n e g
      rw [h3, cd_eFv h1 h2]
      exact Or.inr ⟨b, h1, rfl⟩
    · have : e = cd_fs BK n := by omega
      rw [this, cd_eFn]
      exact Or.inl rfl
  have hfe : ∀ b, b < n → cd_fo x_firstEdge 0 n (fun c => nI (cd_fs BK c)) b = nI (cd_fs BK b) := fun b hb => cd_fo_in (by omega) (by omega)
  have hk6 : ∀ b, b < n → ∃ j : Nat, j < 6 ∧ BK b = nI j := fun b hb => by rw [hbk b hb]; exact (hD.2.2 b hb).1
  have hkd : ∀ b, b < n → cd_fo y_kind 12 n y_kind (12 + b) = BK b ∧ ∃ j : Nat, j < 6 ∧ BK b = nI j := by
    intro b hb
    rw [cd_fo_k hb, (hD.2.1 b (by omega)).2.2.1, hbk b hb]
    exact ⟨rfl, (hD.2.2 b hb).1⟩
  obtain ⟨TO, hTO⟩ : ∃ f, f = cd_fo x_edgeTo 0 (cd_fs BK n + 1) (cd_eT BK x_targets n) := ⟨_, rfl⟩
  obtain ⟨FR, hFR⟩ : ∃ f, f = cd_fo x_edgeFrom 0 (cd_fs BK n + 1) (cd_eF BK n) := ⟨_, rfl⟩
  rw [← hTO] at hto
  rw [← hFR] at hfr
  rw [← hTO, ← hFR]
  have hB2 : cd_B n (cd_fs BK n + 1) (cd_fo x_builtOps 0 n x_ops) (cd_fo x_builtOperands 0 n x_operands) BK (cd_fo x_firstEdge 0 n (fun c => nI (cd_fs BK c))) FR TO (cd_fo y_op 12 n y_op) (cd_fo y_number 12 n y_number) (cd_fo y_kind 12 n y_kind) := by
    refine ⟨hn, Or.inr ⟨by omega, rfl⟩, fun b hb => ?_, fun e he => ⟨hto e he, hfr e he⟩⟩
    obtain ⟨g1, g2, g3, g4, g5⟩ := hD.2.1 b (by omega)
    refine ⟨?_, ?_, (hkd b hb).1, hk6 b hb, hfe b hb⟩
    · rw [cd_fo_k hb, cd_fo_in (by omega) (by omega), Nat.sub_zero]; exact g1
    · rw [cd_fo_k hb, cd_fo_in (by omega) (by omega), Nat.sub_zero]; exact g2
  obtain ⟨b1, b2, b3⟩ := cd_B37 hB2 rfl
  have hD2 : cd_D n x_ops x_operands x_kinds x_targets (cd_fo y_op 12 n y_op) (cd_fo y_number 12 n y_number) (cd_fo y_kind 12 n y_kind) y_target := by
    refine ⟨hn, fun i hi => ?_, hD.2.2⟩
    rw [cd_fo_out (by omega), cd_fo_out (by omega), cd_fo_out (by omega)]
    exact hD.2.1 i hi
  refine cd_xfb (y_made := nI n) (y_blocks := nI n) (y_paths := y_paths) (y_many := y_many) (y_lastX := 0) (y_lastY := 0) (y_lastBlocks := 0) (y_op := cd_fo y_op 12 n y_op) (y_number := cd_fo y_number 12 n y_number) (y_kind := cd_fo y_kind 12 n y_kind) (y_target := y_target) (y_from := FR) (y_exit := cd_fo x_edgeExit 0 (cd_fs BK n + 1) (cd_eE BK n)) (y_weight := cd_fo x_edgeWeight 0 (cd_fs BK n + 1) (fun _ => 0)) (y_tree := x_inTree) (y_back := x_isBack) (y_row := y_row) (y_length := y_length) (y_gone := y_gone) (y_done := y_done) (y_went := y_went) (y_cut := y_cut) (y_kept := x_dumpKept) (y_mark := y_mark) (y_way := y_way) (y_tried := y_tried) (y_stack := y_stack) hn (by omega) hfe hkd hto rfl (fun L rk G ib pf pb met nx way hG hN hLt hYfb => ?_)
  dsimp only
  refine cd_xnum (G := G) (L := L) hn (by omega) (fun e he hz2 => ?_) hG.1 (fun b hb hl => (hN b hb hl).1) (fun bg fp hPB hL hF => ?_)
  · by_cases g : e < cd_fs BK n
    · obtain ⟨b, j, h1, h2, h3⟩ := cd_ewh n e g
      rw [h3] at hz2 ⊢
      exact hLt b j h1 h2 hz2
    · have : e = cd_fs BK n := by omega
      refine ⟨0, by omega, ?_, hG.1⟩
      rw [this, hTO, cd_fo_in (by omega) (by omega), Nat.sub_zero, cd_eTn]
      rfl
  dsimp only
  refine cd_xtree b1 b2 b3 (fun s hs => ?_)
  dsimp only
  refine cd_xforget ?_
  dsimp only
  unfold wpY_build
  dsimp only
  refine cd_ywhole hD (fun _ _ => br_f (by decide) ?_) (fun h => ?_)
  · refine cd_ylist (kd := BK) (tg := x_targets) hD hbk ?_
    rw [← hTO, ← hFR]
    refine hYfb _ (fun mk tr st => ?_)
    dsimp only
    refine cd_yfp (bk := BK) (pf := pf) (pb := pb) (bg := bg) (L := L) (rk := rk) (G := G) hn (Nat.le_refl _) (by omega) (fun b hb => ⟨(hkd b hb).1, hk6 b hb, hfe b hb⟩) hG hN hL hPB (fun ny mn row len wy tr2 st2 hm hPR => ?_)
    refine cd_yrenew b1 b2 b3 (fun e he => cd_fo_in (by omega) (by omega)) (fun p hp => cd_fo_in (by omega) (by omega)) hs (fun mk2 => ⟨rfl, ?_⟩)
    refine cd_mk n n (cd_fs BK n + 1) (cd_fp bg G n) hD2 hB2 (cd_C0 (cut0 := y_cut)) cd_K0 ⟨fun h => absurd h hz, fun _ => ⟨L, rk, G, hG, hN, hPB, hL, hF, rfl, ny, rfl, hm, hPR⟩⟩
  · rcases h with h | h
    · exact absurd h hz
    · exact absurd hat h
end
