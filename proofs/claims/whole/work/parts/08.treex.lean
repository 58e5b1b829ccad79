theorem cd_upd_id {a : Nat → Int32} {p : Nat} {v : Int32} (h : v = a p) : upd a p v = a := by
  funext j
  unfold upd
  by_cases e : j = p
  · subst e; rw [if_pos rfl]; exact h
  · rw [if_neg e]
/-- the place of an edge's end -/
def cd_pl (x : Int32) : Nat := if x = -1 then 12 else x.toNatClampNeg
/-- one edge looked at: looked, joined, inTree -/
def cd_ks (fr to : Nat → Int32) (e : Nat) (s : (Nat → Int32) × (Nat → Int32) × (Nat → Int32)) : (Nat → Int32) × (Nat → Int32) × (Nat → Int32) :=
  (upd s.1 e 1, cd_fo s.2.1 0 13 (fun p => if s.2.1 p = s.2.1 (cd_pl (fr e)) then s.2.1 (cd_pl (to e)) else s.2.1 p), upd s.2.2 e (if s.2.1 (cd_pl (fr e)) = s.2.1 (cd_pl (to e)) then 0 else 1))
/-- the edge that is next -/
def cd_bt (w lk : Nat → Int32) (m e : Nat) : Prop := e < m ∧ lk e = 0 ∧ ∀ f, f < m → lk f = 0 → (w f).toInt < (w e).toInt ∨ ((w f).toInt = (w e).toInt ∧ e ≤ f)
theorem cd_bt_u {w lk : Nat → Int32} {m e f : Nat} (h : cd_bt w lk m e) (g : cd_bt w lk m f) : e = f := by
  have h1 := h.2.2 f g.1 g.2.1
  have h2 := g.2.2 e h.1 h.2.1
  omega
def cd_KR (w fr to : Nat → Int32) (m : Nat) (s0 : (Nat → Int32) × (Nat → Int32) × (Nat → Int32)) : Nat → (Nat → Int32) × (Nat → Int32) × (Nat → Int32) → Prop
  | 0, s => s = cd_ks fr to m s0
  | i + 1, s => ∃ s1 e, cd_KR w fr to m s0 i s1 ∧ cd_bt w s1.1 m e ∧ s = cd_ks fr to e s1
theorem cd_KR_u {w fr to : Nat → Int32} {m : Nat} {s0 : (Nat → Int32) × (Nat → Int32) × (Nat → Int32)} : ∀ i s s', cd_KR w fr to m s0 i s → cd_KR w fr to m s0 i s' → s = s'
  | 0, s, s', h, g => h.trans g.symm
  | i + 1, s, s', ⟨s1, e, h1, h2, h3⟩, ⟨s2, f, g1, g2, g3⟩ => by
    have := cd_KR_u i s1 s2 h1 g1
    subst this
    have := cd_bt_u h2 g2
    subst this
    exact h3.trans g3.symm
/-- how many are looked at -/
def cd_lc (lk : Nat → Int32) (n : Nat) : Nat := cd_sm (fun e => if lk e = 0 then 0 else 1) n
theorem cd_lc_u {lk : Nat → Int32} {e n : Nat} (he : e < n) (h : lk e = 0) : cd_lc (upd lk e 1) n = cd_lc lk n + 1 := by
  have := cd_sm_u (f := fun e => if lk e = 0 then 0 else 1) (g := fun f => if upd lk e 1 f = 0 then 0 else 1) (j := e) n he (fun i _ hi => by
    show (if upd lk e 1 i = 0 then 0 else 1) = (if lk i = 0 then 0 else 1)
    rw [pk_un hi])
  rw [if_pos h, pk_us, if_neg (by decide)] at this
  exact this
theorem cd_lc_0 {lk : Nat → Int32} {n : Nat} (h : ∀ e, e < n → lk e = 0) : cd_lc lk n = 0 := by
  have := cd_sm_le (f := fun e => if lk e = 0 then 0 else 1) (c := 0) n (fun i hi => by
    show (if lk i = 0 then 0 else 1) ≤ 0
    rw [if_pos (h i hi)]
    exact Nat.le_refl 0)
  unfold cd_lc
  omega
theorem cd_lc_ex {lk : Nat → Int32} : ∀ n, cd_lc lk n < n → ∃ e, e < n ∧ lk e = 0
  | 0, h => absurd h (by omega)
  | n + 1, h => by
    by_cases e : lk n = 0
    · exact ⟨n, by omega, e⟩
    · have h' : cd_lc lk n + (if lk n = 0 then 0 else 1) < n + 1 := h
      rw [if_neg e] at h'
      obtain ⟨f, hf, hf2⟩ := cd_lc_ex (lk := lk) n (by omega)
      exact ⟨f, by omega, hf2⟩
theorem cd_lc_all {lk : Nat → Int32} : ∀ n, (∀ e, e < n → lk e ≠ 0) → cd_lc lk n = n
  | 0, _ => rfl
  | n + 1, h => by
    show cd_lc lk n + (if lk n = 0 then 0 else 1) = n + 1
    rw [cd_lc_all n (fun e he => h e (by omega)), if_neg (h n (by omega))]
/-- what holds after i steps -/
theorem cd_KR_c {w fr to : Nat → Int32} {m : Nat} {s0 : (Nat → Int32) × (Nat → Int32) × (Nat → Int32)} (h0 : ∀ e, e ≤ m → s0.1 e = 0) : ∀ i s, cd_KR w fr to m s0 i s → cd_lc s.1 (m + 1) = i + 1 ∧ s.1 m ≠ 0
  | 0, s, h => by
    subst h
    refine ⟨?_, ?_⟩
    · show cd_lc (upd s0.1 m 1) (m + 1) = 1
      rw [cd_lc_u (by omega) (h0 m (by omega)), cd_lc_0 (fun e he => h0 e (by omega))]
    · show upd s0.1 m 1 m ≠ 0
      rw [pk_us]; decide
  | i + 1, s, ⟨s1, e, h1, h2, h3⟩ => by
    obtain ⟨a, b⟩ := cd_KR_c h0 i s1 h1
    subst h3
    refine ⟨?_, ?_⟩
    · show cd_lc (upd s1.1 e 1) (m + 1) = i + 1 + 1
      rw [cd_lc_u (by have := h2.1; omega) h2.2.1, a]
    · show upd s1.1 e 1 m ≠ 0
      rw [pk_un (by have := h2.1; omega)]; exact b
section
variable {x_blocks x_builtBlocks x_edges x_paths x_runX x_runY x_runDone : Int32} {x_ops x_operands x_kinds x_targets x_builtOps x_builtOperands x_builtKinds x_firstEdge x_edgeFrom x_edgeExit x_edgeTo x_edgeWeight x_inTree x_isBack x_beginsPaths x_firstPath x_pathsFrom x_pathsBefore x_counts x_dumped x_dumpKept x_looked x_joined x_met x_nextExit x_way : Nat → Int32}
theorem cd_xpl {post : Int32 → Prop} {x : Int32} (hx : x = -1 ∨ ∃ t : Nat, t < 12 ∧ x = nI t) (hp : post (nI (cd_pl x))) : wpX_placeOf post x := by
  unfold wpX_placeOf
  unfold cd_pl at hp
  refine br_c (fun h => ?_) (fun h => ?_)
  · rw [if_pos h] at hp; exact hp
  · rw [if_neg h] at hp
    obtain ⟨t, ht, rfl⟩ := hx.resolve_left h
    rw [cd_cl (by omega)] at hp; exact hp
theorem cd_pl13 {x : Int32} (hx : x = -1 ∨ ∃ t : Nat, t < 12 ∧ x = nI t) : cd_pl x < 13 := by
  unfold cd_pl
  rcases hx with h | ⟨t, ht, rfl⟩
  · rw [if_pos h]; omega
  · rw [if_neg (cd_nm1 (by omega)), cd_cl (by omega)]; omega
theorem cd_xlook {post : SX → Prop} {e : Nat} {q : Int32} (hq : q = nI e) (he : e < 37) (hf : x_edgeFrom e = -1 ∨ ∃ t : Nat, t < 12 ∧ x_edgeFrom e = nI t) (ht : x_edgeTo e = -1 ∨ ∃ t : Nat, t < 12 ∧ x_edgeTo e = nI t)
    (hp : post (x_blocks, x_builtBlocks, x_edges, x_paths, x_runX, x_runY, x_runDone, x_ops, x_operands, x_kinds, x_targets, x_builtOps, x_builtOperands, x_builtKinds, x_firstEdge, x_edgeFrom, x_edgeExit, x_edgeTo, x_edgeWeight, ((cd_ks x_edgeFrom x_edgeTo e (x_looked, x_joined, x_inTree)).2.2), x_isBack, x_beginsPaths, x_firstPath, x_pathsFrom, x_pathsBefore, x_counts, x_dumped, x_dumpKept, ((cd_ks x_edgeFrom x_edgeTo e (x_looked, x_joined, x_inTree)).1), ((cd_ks x_edgeFrom x_edgeTo e (x_looked, x_joined, x_inTree)).2.1), x_met, x_nextExit, x_way)) : wpX_lookAtForTree post (x_blocks, x_builtBlocks, x_edges, x_paths, x_runX, x_runY, x_runDone, x_ops, x_operands, x_kinds, x_targets, x_builtOps, x_builtOperands, x_builtKinds, x_firstEdge, x_edgeFrom, x_edgeExit, x_edgeTo, x_edgeWeight, x_inTree, x_isBack, x_beginsPaths, x_firstPath, x_pathsFrom, x_pathsBefore, x_counts, x_dumped, x_dumpKept, x_looked, x_joined, x_met, x_nextExit, x_way) q := by
  subst hq
  have c := cd_cl (n := e) (by omega)
  have p1 := cd_pl13 hf
  have p2 := cd_pl13 ht
  unfold wpX_lookAtForTree
  dsimp only
  rw [c]
  have L : ∀ (tr : Nat → Int32) (a b : Int32), a = x_joined (cd_pl (x_edgeFrom e)) → b = x_joined (cd_pl (x_edgeTo e)) → tr = (cd_ks x_edgeFrom x_edgeTo e (x_looked, x_joined, x_inTree)).2.2 → ∃ n56, wX_lookAtForTree_56 post a b x_blocks x_builtBlocks x_edges x_paths x_runX x_runY x_runDone n56 0 x_ops x_operands x_kinds x_targets x_builtOps x_builtOperands x_builtKinds x_firstEdge x_edgeFrom x_edgeExit x_edgeTo x_edgeWeight tr x_isBack x_beginsPaths x_firstPath x_pathsFrom x_pathsBefore x_counts x_dumped x_dumpKept (upd x_looked e 1) x_joined x_met x_nextExit x_way := by
    intro tr a b ha hb htr
    subst ha hb htr
    exact cd_loop (fun n i => wX_lookAtForTree_56 post (x_joined (cd_pl (x_edgeFrom e))) (x_joined (cd_pl (x_edgeTo e))) x_blocks x_builtBlocks x_edges x_paths x_runX x_runY x_runDone n (nI i) x_ops x_operands x_kinds x_targets x_builtOps x_builtOperands x_builtKinds x_firstEdge x_edgeFrom x_edgeExit x_edgeTo x_edgeWeight ((cd_ks x_edgeFrom x_edgeTo e (x_looked, x_joined, x_inTree)).2.2) x_isBack x_beginsPaths x_firstPath x_pathsFrom x_pathsBefore x_counts x_dumped x_dumpKept (upd x_looked e 1) (cd_fo x_joined 0 i (fun p => if x_joined p = x_joined (cd_pl (x_edgeFrom e)) then x_joined (cd_pl (x_edgeTo e)) else x_joined p)) x_met x_nextExit x_way) 13
      (fun n => pk_le 13 13 (fun _ => hp) (fun h => absurd h (by omega)))
      (fun n i hi hn => pk_le 13 i (fun h => absurd h (by omega)) (fun h => ⟨pk_in i 13 hi, br_c
        (fun hz => ⟨pk_in i 13 hi, nm_r (cd_fo_z (by omega) (by rw [cd_cl (by omega), cd_fo_out (by omega)] at hz; rw [if_pos hz])) (nm_r (nI_1 i) hn)⟩)
        (fun hz => nm_r (nI_1 i) (by
          rw [cd_cl (by omega), cd_fo_out (by omega)] at hz
          have E : cd_fo x_joined 0 (i + 1) (fun p => if x_joined p = x_joined (cd_pl (x_edgeFrom e)) then x_joined (cd_pl (x_edgeTo e)) else x_joined p) = cd_fo x_joined 0 i (fun p => if x_joined p = x_joined (cd_pl (x_edgeFrom e)) then x_joined (cd_pl (x_edgeTo e)) else x_joined p) := by
            rw [← cd_fo_s]
            exact cd_upd_id (by rw [if_neg hz, cd_fo_out (by omega), Nat.zero_add])
          rw [E] at hn
          exact hn))⟩))
  refine ⟨pk_in e 37 he, nm_e ⟨pk_in e 37 he, cd_xpl hf ⟨pk_in (cd_pl (x_edgeFrom e)) 13 p1, nm_r (congrArg x_joined (cd_cl (by omega))) ⟨pk_in e 37 he, cd_xpl ht ⟨pk_in (cd_pl (x_edgeTo e)) 13 p2, nm_r (congrArg x_joined (cd_cl (by omega))) ?_⟩⟩⟩⟩⟩
  refine br_c (fun h => ⟨pk_in e 37 he, nm_e (L _ _ _ rfl rfl ?_)⟩) (fun h => ⟨pk_in e 37 he, nm_e (L _ _ _ rfl rfl ?_)⟩)
  · show _ = upd x_inTree e (if x_joined (cd_pl (x_edgeFrom e)) = x_joined (cd_pl (x_edgeTo e)) then 0 else 1)
    rw [if_pos h]; rfl
  · show _ = upd x_inTree e (if x_joined (cd_pl (x_edgeFrom e)) = x_joined (cd_pl (x_edgeTo e)) then 0 else 1)
    rw [if_neg h]; rfl
/-- counting down to below 0 -/
def cd_dn : Nat → Int32
  | 0 => -1
  | j + 1 => nI j
theorem cd_dn_s (j : Nat) : nI j + (-1) = cd_dn j := by
  cases j with
  | zero => rfl
  | succ k => exact pk_m1 k
theorem cd_xheavy {post : Int32 → Prop} {m : Nat} (hm : m < 37) (hl : x_looked m ≠ 0) (hex : ∃ e, e < m ∧ x_looked e = 0) (hp : ∀ e, cd_bt x_edgeWeight x_looked m e → post (nI e)) : wpX_heaviestNotLooked post (x_blocks, x_builtBlocks, (nI (m + 1)), x_paths, x_runX, x_runY, x_runDone, x_ops, x_operands, x_kinds, x_targets, x_builtOps, x_builtOperands, x_builtKinds, x_firstEdge, x_edgeFrom, x_edgeExit, x_edgeTo, x_edgeWeight, x_inTree, x_isBack, x_beginsPaths, x_firstPath, x_pathsFrom, x_pathsBefore, x_counts, x_dumped, x_dumpKept, x_looked, x_joined, x_met, x_nextExit, x_way) := by
  have H : ∀ i h, i ≤ m + 1 → h ≤ m → ((h = m ∧ ∀ f, i ≤ f → f < m → x_looked f ≠ 0) ∨ (h < m ∧ i ≤ h ∧ x_looked h = 0 ∧ ∀ f, i ≤ f → f < m → x_looked f = 0 → (x_edgeWeight f).toInt < (x_edgeWeight h).toInt ∨ ((x_edgeWeight f).toInt = (x_edgeWeight h).toInt ∧ h ≤ f))) → wX_heaviestNotLooked_14 post x_blocks x_builtBlocks (nI (m + 1)) x_paths x_runX x_runY x_runDone x_ops x_operands x_kinds x_targets x_builtOps x_builtOperands x_builtKinds x_firstEdge x_edgeFrom x_edgeExit x_edgeTo x_edgeWeight x_inTree x_isBack x_beginsPaths x_firstPath x_pathsFrom x_pathsBefore x_counts x_dumped x_dumpKept x_looked x_joined x_met x_nextExit x_way (i + 1) (nI h) (cd_dn i) := by
    intro i
    induction i with
    | zero =>
      intro h hi hh I
      refine br_t (show cd_dn 0 < 0 by decide) ?_
      rcases I with ⟨_, I⟩ | ⟨h1, h2, h3, h4⟩
      · obtain ⟨e, he, hz⟩ := hex
        exact absurd hz (I e (by omega) he)
      · exact hp h ⟨h1, h3, fun f hf hz => h4 f (by omega) hf hz⟩
    | succ i ih =>
      intro h hi hh I
      show wX_heaviestNotLooked_14 post x_blocks x_builtBlocks (nI (m + 1)) x_paths x_runX x_runY x_runDone x_ops x_operands x_kinds x_targets x_builtOps x_builtOperands x_builtKinds x_firstEdge x_edgeFrom x_edgeExit x_edgeTo x_edgeWeight x_inTree x_isBack x_beginsPaths x_firstPath x_pathsFrom x_pathsBefore x_counts x_dumped x_dumpKept x_looked x_joined x_met x_nextExit x_way (i + 1 + 1) (nI h) (nI i)
      have ch := cd_cl (n := h) (by omega)
      have ci := cd_cl (n := i) (by omega)
      have keep : ∀ h', h' ≤ m → ((h' = m ∧ ∀ f, i ≤ f → f < m → x_looked f ≠ 0) ∨ (h' < m ∧ i ≤ h' ∧ x_looked h' = 0 ∧ ∀ f, i ≤ f → f < m → x_looked f = 0 → (x_edgeWeight f).toInt < (x_edgeWeight h').toInt ∨ ((x_edgeWeight f).toInt = (x_edgeWeight h').toInt ∧ h' ≤ f))) → wX_heaviestNotLooked_14 post x_blocks x_builtBlocks (nI (m + 1)) x_paths x_runX x_runY x_runDone x_ops x_operands x_kinds x_targets x_builtOps x_builtOperands x_builtKinds x_firstEdge x_edgeFrom x_edgeExit x_edgeTo x_edgeWeight x_inTree x_isBack x_beginsPaths x_firstPath x_pathsFrom x_pathsBefore x_counts x_dumped x_dumpKept x_looked x_joined x_met x_nextExit x_way (i + 1) (nI h') (nI i + (-1)) := by
        intro h' hh' I'
        rw [cd_dn_s]
        exact ih h' (by omega) hh' I'
      have skip : x_looked i ≠ 0 → wX_heaviestNotLooked_14 post x_blocks x_builtBlocks (nI (m + 1)) x_paths x_runX x_runY x_runDone x_ops x_operands x_kinds x_targets x_builtOps x_builtOperands x_builtKinds x_firstEdge x_edgeFrom x_edgeExit x_edgeTo x_edgeWeight x_inTree x_isBack x_beginsPaths x_firstPath x_pathsFrom x_pathsBefore x_counts x_dumped x_dumpKept x_looked x_joined x_met x_nextExit x_way (i + 1) (nI h) (nI i + (-1)) := by
        intro hz
        refine keep h hh ?_
        rcases I with ⟨a, b⟩ | ⟨a, b, c, d⟩
        · refine Or.inl ⟨a, fun f h1 h2 => ?_⟩
          by_cases e : f = i
          · subst e; exact hz
          · exact b f (by omega) h2
        · refine Or.inr ⟨a, by omega, c, fun f h1 h2 h3 => ?_⟩
          by_cases e : f = i
          · subst e; exact absurd h3 hz
          · exact d f (by omega) h2 h3
      refine br_f (nI_pos (by omega)) ⟨pk_in h 37 (by omega), ?_⟩
      rw [ch]
      refine br_c (fun hz => ⟨pk_in i 37 (by omega), pk_in h 37 (by omega), ?_⟩) (fun hz => ?_)
      · rw [ci]
        rcases I with ⟨a, b⟩ | ⟨a, b, c, d⟩
        · subst a; exact absurd hz hl
        · refine br_c (fun hlt => ⟨pk_in i 37 (by omega), ?_⟩) (fun hlt => ⟨pk_in i 37 (by omega), ?_⟩)
          · rw [ci]
            refine br_c (fun hy => br_t rfl (nm_e (keep h hh (Or.inr ⟨a, by omega, c, fun f h1 h2 h3 => ?_⟩)))) (fun hy => nm_e (skip hy))
            by_cases e : f = i
            · subst e; rw [Int32.lt_iff_toInt_lt] at hlt; exact Or.inl hlt
            · exact d f (by omega) h2 h3
          · rw [ci]
            refine br_c (fun hy => br_f (by decide) (nm_e (keep i (by omega) ?_))) (fun hy => nm_e (skip hy))
            rw [Int32.lt_iff_toInt_lt] at hlt
            refine Or.inr ⟨by omega, Nat.le_refl _, hy, fun f h1 h2 h3 => ?_⟩
            by_cases e : f = i
            · subst e; exact Or.inr ⟨rfl, Nat.le_refl _⟩
            · have := d f (by omega) h2 h3
              omega
      · refine ⟨pk_in i 37 (by omega), ?_⟩
        rw [ci]
        refine br_c (fun hy => br_f (by decide) (nm_e (keep i (by omega) ?_))) (fun hy => nm_e (skip hy))
        rcases I with ⟨a, b⟩ | ⟨a, b, c, d⟩
        · have hi2 : i ≠ m := fun e => by subst e; exact hl hy
          refine Or.inr ⟨by omega, Nat.le_refl _, hy, fun f h1 h2 h3 => ?_⟩
          by_cases e : f = i
          · subst e; exact Or.inr ⟨rfl, Nat.le_refl _⟩
          · exact absurd h3 (b f (by omega) h2)
        · exact absurd c hz
  unfold wpX_heaviestNotLooked
  dsimp only
  refine nm_r (nI_pred m) (nm_r (nI_pred m) (Exists.intro (m + 1 + 1) (H (m + 1) m (by omega) (by omega) (Or.inl ⟨rfl, fun f h1 h2 => absurd h1 (by omega)⟩))))
theorem cd_xtree {post : SX → Prop} {m : Nat} (hm : m < 37) (hf : ∀ e, e ≤ m → x_edgeFrom e = -1 ∨ ∃ t : Nat, t < 12 ∧ x_edgeFrom e = nI t) (ht : ∀ e, e ≤ m → x_edgeTo e = -1 ∨ ∃ t : Nat, t < 12 ∧ x_edgeTo e = nI t)
    (hp : ∀ s, cd_KR x_edgeWeight x_edgeFrom x_edgeTo m (cd_fo x_looked 0 (m + 1) (fun _ => 0), cd_fo x_joined 0 13 nI, x_inTree) m s → post (x_blocks, x_builtBlocks, (nI (m + 1)), x_paths, x_runX, x_runY, x_runDone, x_ops, x_operands, x_kinds, x_targets, x_builtOps, x_builtOperands, x_builtKinds, x_firstEdge, x_edgeFrom, x_edgeExit, x_edgeTo, x_edgeWeight, s.2.2, x_isBack, x_beginsPaths, x_firstPath, x_pathsFrom, x_pathsBefore, x_counts, x_dumped, x_dumpKept, s.1, s.2.1, x_met, x_nextExit, x_way)) : wpX_makeTree post (x_blocks, x_builtBlocks, (nI (m + 1)), x_paths, x_runX, x_runY, x_runDone, x_ops, x_operands, x_kinds, x_targets, x_builtOps, x_builtOperands, x_builtKinds, x_firstEdge, x_edgeFrom, x_edgeExit, x_edgeTo, x_edgeWeight, x_inTree, x_isBack, x_beginsPaths, x_firstPath, x_pathsFrom, x_pathsBefore, x_counts, x_dumped, x_dumpKept, x_looked, x_joined, x_met, x_nextExit, x_way) := by
  have h0 : ∀ e, e ≤ m → cd_fo x_looked 0 (m + 1) (fun _ => 0) e = 0 := fun e he => cd_fo_in (by omega) (by omega)
  have H : ∀ d i s, i + d = m → cd_KR x_edgeWeight x_edgeFrom x_edgeTo m (cd_fo x_looked 0 (m + 1) (fun _ => 0), cd_fo x_joined 0 13 nI, x_inTree) i s → wX_makeTree_61 post (d + 1) (nI d) x_blocks x_builtBlocks (nI (m + 1)) x_paths x_runX x_runY x_runDone x_ops x_operands x_kinds x_targets x_builtOps x_builtOperands x_builtKinds x_firstEdge x_edgeFrom x_edgeExit x_edgeTo x_edgeWeight s.2.2 x_isBack x_beginsPaths x_firstPath x_pathsFrom x_pathsBefore x_counts x_dumped x_dumpKept s.1 s.2.1 x_met x_nextExit x_way := by
    intro d
    induction d with
    | zero =>
      intro i s hi hk
      have : i = m := by omega
      subst this
      exact pk_le 0 0 (fun _ => hp s hk) (fun h => absurd h (by omega))
    | succ d ih =>
      intro i s hi hk
      obtain ⟨k1, k2⟩ := cd_KR_c h0 i s hk
      have hex : ∃ e, e < m ∧ s.1 e = 0 := by
        obtain ⟨e, he, hz⟩ := cd_lc_ex (lk := s.1) (m + 1) (by omega)
        refine ⟨e, ?_, hz⟩
        by_cases g : e = m
        · subst g; exact absurd hz k2
        · omega
      refine pk_le (d + 1) 0 (fun h => absurd h (by omega)) (fun _ => cd_xheavy hm k2 hex (fun e he => ?_))
      refine cd_xlook rfl (by have := he.1; omega) (hf e (by have := he.1; omega)) (ht e (by have := he.1; omega)) ?_
      exact nm_r (pk_m1 d) (ih (i + 1) _ (by omega) ⟨s, e, hk, he, rfl⟩)
  refine cd_loop (fun n i => wX_makeTree_2 post x_blocks x_builtBlocks (nI (m + 1)) x_paths x_runX x_runY x_runDone n (nI i) x_ops x_operands x_kinds x_targets x_builtOps x_builtOperands x_builtKinds x_firstEdge x_edgeFrom x_edgeExit x_edgeTo x_edgeWeight x_inTree x_isBack x_beginsPaths x_firstPath x_pathsFrom x_pathsBefore x_counts x_dumped x_dumpKept x_looked (cd_fo x_joined 0 i nI) x_met x_nextExit x_way) 13
    (fun n => pk_le 13 13 (fun _ => ?_) (fun h => absurd h (by omega)))
    (fun n i hi hn => pk_le 13 i (fun h => absurd h (by omega)) (fun h => ⟨pk_in i 13 hi, nm_r (cd_fo_z (by omega) rfl) (nm_r (nI_1 i) hn)⟩))
  refine cd_loop (fun n i => wX_makeTree_23 post x_blocks x_builtBlocks (nI (m + 1)) x_paths x_runX x_runY x_runDone n (nI i) x_ops x_operands x_kinds x_targets x_builtOps x_builtOperands x_builtKinds x_firstEdge x_edgeFrom x_edgeExit x_edgeTo x_edgeWeight x_inTree x_isBack x_beginsPaths x_firstPath x_pathsFrom x_pathsBefore x_counts x_dumped x_dumpKept (cd_fo x_looked 0 i (fun _ => 0)) (cd_fo x_joined 0 13 nI) x_met x_nextExit x_way) (m + 1)
    (fun n => pk_le (m + 1) (m + 1) (fun _ => ?_) (fun h => absurd h (by omega)))
    (fun n i hi hn => pk_le (m + 1) i (fun h => absurd h (by omega)) (fun h => ⟨pk_in i 37 (by omega), nm_r (cd_fo_z (by omega) rfl) (nm_r (nI_1 i) hn)⟩))
  refine cd_xlook (nI_pred m) hm (hf m (by omega)) (ht m (by omega)) ?_
  exact nm_r (nI_pred m) (Exists.intro (m + 1) (H m 0 _ (by omega) rfl))
end
