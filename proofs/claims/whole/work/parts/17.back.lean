section
variable {x_blocks x_builtBlocks x_edges x_paths x_runX x_runY x_runDone : Int32} {x_ops x_operands x_kinds x_targets x_builtOps x_builtOperands x_builtKinds x_firstEdge x_edgeFrom x_edgeExit x_edgeTo x_edgeWeight x_inTree x_isBack x_beginsPaths x_firstPath x_pathsFrom x_pathsBefore x_counts x_dumped x_dumpKept x_looked x_joined x_met x_nextExit x_way : Nat → Int32} {y_made y_blocks y_edges y_paths y_many y_lastX y_lastY y_lastBlocks : Int32} {y_op y_number y_kind y_target y_from y_to y_exit y_weight y_firstEdge y_tree y_back y_row y_length y_gone y_done y_went y_cut y_kept y_mark y_way y_tried y_stack : Nat → Int32}
/-- what the walk leaves -/
theorem cd_XI_end {nb c : Nat} {bk to ib pf pb : Nat → Int32} {w m x rk G : Nat → Nat} (h : cd_XI nb 0 c bk to ib pf pb w m x rk G) (hnb : 0 < nb) : cd_PG nb bk to ib (fun b => m b = 2) rk ∧ cd_PN nb bk to ib pf pb (fun b => m b = 2) rk G ∧ (∀ b k : Nat, b < nb → k < cd_ec (bk b) → ib (cd_fs bk b + k) ≠ 0 → ∃ t : Nat, t < nb ∧ to (cd_fs bk b + k) = nI t ∧ m t = 2) := by
  obtain ⟨h1, h2, h3, h4, h5, h6, h7, h8, h9, h10, h11⟩ := h
  have two : ∀ b, b < nb → m b ≠ 0 → m b = 2 := by
    intro b hb hz
    have := (h4 b hb).1
    by_cases e : m b = 1
    · obtain ⟨i, hi, _⟩ := h3 b hb e
      omega
    · omega
  refine ⟨⟨two 0 hnb h10, fun b hb hm => ?_⟩, h9, fun b k hb hk hz => ?_⟩
  · obtain ⟨g1, g2⟩ := h7 b hb hm
    refine ⟨by omega, fun k hk => ?_⟩
    rcases g2 k hk with g | ⟨t, t1, t2, t3, t4⟩
    · exact Or.inl g
    · exact Or.inr ⟨t, t1, t2, two t t1 t3, fun z => (t4 z).2⟩
  · have hx : k < x b := by
      by_cases g : k < x b
      · exact g
      · exact absurd (h8 b hb k (by omega) hk) hz
    have hm : m b = 2 := by
      refine two b hb (fun z => ?_)
      have := (h4 b hb).2.2.1 z
      omega
    rcases (h7 b hb hm).2 k hk with g | ⟨s, t1, t2, t3, t4⟩
    · exact absurd (h11 b hb k hk g) hz
    · exact ⟨s, t1, t2, two s t1 t3⟩
theorem cd_xfb {post : SX → Prop} {nb : Nat} (hnb : nb ≤ 12) (hnb0 : 0 < nb) (hfe : ∀ b, b < nb → x_firstEdge b = nI (cd_fs x_builtKinds b)) (hkd : ∀ b, b < nb → y_kind (12 + b) = x_builtKinds b ∧ ∃ k : Nat, k < 6 ∧ x_builtKinds b = nI k) (hto : ∀ e, e < cd_fs x_builtKinds nb + 1 → x_edgeTo e = -1 ∨ ∃ t : Nat, t < nb ∧ x_edgeTo e = nI t) (hib : x_isBack = cd_fo y_back 0 (cd_fs x_builtKinds nb + 1) (fun _ => 0))
    (hp : ∀ (L : Nat → Prop) (rk G : Nat → Nat) (ib pf pb met nx way : Nat → Int32), cd_PG nb x_builtKinds x_edgeTo ib L rk → cd_PN nb x_builtKinds x_edgeTo ib pf pb L rk G → (∀ b k : Nat, b < nb → k < cd_ec (x_builtKinds b) → ib (cd_fs x_builtKinds b + k) ≠ 0 → ∃ t : Nat, t < nb ∧ x_edgeTo (cd_fs x_builtKinds b + k) = nI t ∧ L t) →
      (∀ postY : SY → Prop, (∀ mk tr st, postY (y_made, y_blocks, (nI (cd_fs x_builtKinds nb + 1)), y_paths, y_many, y_lastX, y_lastY, y_lastBlocks, y_op, y_number, y_kind, y_target, y_from, x_edgeTo, y_exit, y_weight, x_firstEdge, y_tree, ib, y_row, y_length, y_gone, y_done, y_went, y_cut, y_kept, mk, y_way, tr, st)) → wpY_findBack postY (y_made, y_blocks, (nI (cd_fs x_builtKinds nb + 1)), y_paths, y_many, y_lastX, y_lastY, y_lastBlocks, y_op, y_number, y_kind, y_target, y_from, x_edgeTo, y_exit, y_weight, x_firstEdge, y_tree, y_back, y_row, y_length, y_gone, y_done, y_went, y_cut, y_kept, y_mark, y_way, y_tried, y_stack)) → post (x_blocks, (nI nb), x_edges, x_paths, x_runX, x_runY, x_runDone, x_ops, x_operands, x_kinds, x_targets, x_builtOps, x_builtOperands, x_builtKinds, x_firstEdge, x_edgeFrom, x_edgeExit, x_edgeTo, x_edgeWeight, x_inTree, ib, x_beginsPaths, x_firstPath, pf, pb, x_counts, x_dumped, x_dumpKept, x_looked, x_joined, met, nx, way)) : wpX_findBackEdges post (x_blocks, (nI nb), x_edges, x_paths, x_runX, x_runY, x_runDone, x_ops, x_operands, x_kinds, x_targets, x_builtOps, x_builtOperands, x_builtKinds, x_firstEdge, x_edgeFrom, x_edgeExit, x_edgeTo, x_edgeWeight, x_inTree, x_isBack, x_beginsPaths, x_firstPath, x_pathsFrom, x_pathsBefore, x_counts, x_dumped, x_dumpKept, x_looked, x_joined, x_met, x_nextExit, x_way) := by
  have hfb := (cd_fs_b x_builtKinds nb).2
  refine cd_loop (fun n i => wX_findBackEdges_2 post x_blocks (nI nb) x_edges x_paths x_runX x_runY x_runDone n (nI i) x_ops x_operands x_kinds x_targets x_builtOps x_builtOperands x_builtKinds x_firstEdge x_edgeFrom x_edgeExit x_edgeTo x_edgeWeight x_inTree x_isBack x_beginsPaths x_firstPath x_pathsFrom x_pathsBefore x_counts x_dumped x_dumpKept x_looked x_joined (cd_fo x_met 0 i (fun _ => 0)) (cd_fo x_nextExit 0 i (fun _ => 0)) x_way) nb
    (fun n => pk_le nb nb (fun _ => nm_e (nm_e ?_)) (fun h => absurd h (by omega)))
    (fun n i hi hn => pk_le nb i (fun h => absurd h (by omega)) (fun h => ⟨pk_in i 12 (by omega), nm_r (cd_fo_z (by omega) rfl) ⟨pk_in i 12 (by omega), nm_r (cd_fo_z (by omega) rfl) (nm_r (nI_1 i) hn)⟩⟩))
  have hsum : cd_sm (fun b => if cd_fu (fun _ => 0) 0 1 b = 0 then 1 else 0) nb + 1 ≤ nb := by
    have := cd_sm_u (f := fun _ => 1) (g := fun b => if cd_fu (fun _ => 0) 0 1 b = 0 then 1 else 0) (j := 0) nb hnb0 (fun i _ hi => by
      show (if cd_fu (fun _ => 0) 0 1 i = 0 then 1 else 0) = 1
      rw [cd_fun hi]; rfl)
    have h2 := cd_sm_le (f := fun _ => 1) (c := 1) nb (fun _ _ => Nat.le_refl _)
    rw [cd_fus, if_neg (by decide)] at this
    omega
  have hI : cd_XI nb 1 0 x_builtKinds x_edgeTo x_isBack x_pathsFrom x_pathsBefore (fun _ => 0) (cd_fu (fun _ => 0) 0 1) (fun _ => 0) (fun _ => 0) (fun _ => 0) := by
    have m0 : ∀ b, b ≠ 0 → cd_fu (fun _ => 0) 0 1 b = 0 := fun b hb => cd_fun hb
    refine ⟨fun i hi => ⟨hnb0, cd_fus⟩, fun i j hi hj _ => by omega, fun b hb hm => ⟨0, by omega, ?_⟩, fun b hb => ⟨?_, Nat.zero_le _, fun _ => rfl, fun z => ?_⟩, by omega, fun i hi k hk => absurd hk (by show ¬ k < 0; omega), fun b hb hm => ?_, fun b hb k h1 h2 => ?_, fun b hb hm => ?_, by rw [cd_fus]; omega, fun b hb k hk _ => ?_⟩
    · by_cases e : b = 0
      · exact e.symm
      · rw [m0 b e] at hm; omega
    · by_cases e : b = 0
      · subst e; rw [cd_fus]; omega
      · rw [m0 b e]; omega
    · by_cases e : b = 0
      · subst e; rw [cd_fus] at z; omega
      · rw [m0 b e] at z; omega
    · by_cases e : b = 0
      · subst e; rw [cd_fus] at hm; omega
      · rw [m0 b e] at hm; omega
    · have := cd_fs_lt (kd := x_builtKinds) hb
      rw [hib]
      exact cd_fo_in (by omega) (by omega)
    · by_cases e : b = 0
      · subst e; rw [cd_fus] at hm; omega
      · rw [m0 b e] at hm; omega
    · have := cd_fs_lt (kd := x_builtKinds) hb
      rw [hib]
      exact cd_fo_in (by omega) (by omega)
  have hR : cd_re nb x_builtKinds (cd_fu (fun _ => 0) 0 1) (fun _ => 0) ≤ 48 := by
    have := cd_sm_le (f := fun b => if cd_fu (fun _ => 0) 0 1 b = 2 then 0 else 1 + cd_ec (x_builtKinds b) - 0) (c := 4) nb (fun i _ => by
      have := (cd_ec_r (x_builtKinds i)).2
      show (if cd_fu (fun _ => 0) 0 1 i = 2 then 0 else 1 + cd_ec (x_builtKinds i) - 0) ≤ 4
      split <;> omega)
    exact Nat.le_trans this (by omega)
  have mel : ∀ (f : Nat → Int32), (∀ b, b < nb → f b = 0) → ∀ b, b < nb → upd f 0 1 b = nI (cd_fu (fun _ => 0) 0 1 b) := by
    intro f hf b hb
    by_cases e : b = 0
    · subst e; rw [pk_us, cd_fus]; rfl
    · rw [pk_un e, cd_fun e, hf b hb]; rfl
  refine cd_dfs (x_blocks := x_blocks) (y_made := y_made) (y_blocks := y_blocks) (y_edges := nI (cd_fs x_builtKinds nb + 1)) (y_paths := y_paths) (y_many := y_many) (y_lastX := y_lastX) (y_lastY := y_lastY) (y_lastBlocks := y_lastBlocks) (y_op := y_op) (y_number := y_number) (y_kind := y_kind) (y_target := y_target) (y_from := y_from) (y_exit := y_exit) (y_weight := y_weight) (y_tree := y_tree) (y_row := y_row) (y_length := y_length) (y_gone := y_gone) (y_done := y_done) (y_went := y_went) (y_cut := y_cut) (y_kept := y_kept) (y_way := y_way) hnb hnb0 hfe hkd hto _ 1 0 0 (fun _ => 0) (cd_fu (fun _ => 0) 0 1) (fun _ => 0) (fun _ => 0) (fun _ => 0) x_isBack x_pathsFrom x_pathsBefore _ _ _ post hI (fun i hi => ?_) (fun b hb => ⟨mel _ (fun b hb => cd_fo_in (by omega) (by omega)) b hb, cd_fo_in (by omega) (by omega)⟩) rfl (by omega) (fun c' w' m' x' rk' G' ib' pf' pb' met' nx' way' hF hY => ?_)
  · have : i = 0 := by omega
    subst this
    exact pk_us
  · obtain ⟨e1, e2, e3⟩ := cd_XI_end hF hnb0
    refine hp (fun b => m' b = 2) rk' G' ib' pf' pb' met' nx' way' e1 e2 e3 (fun postY hpY => ?_)
    refine cd_loop (fun n i => wY_findBack_2 postY y_made y_blocks (nI (cd_fs x_builtKinds nb + 1)) y_paths y_many y_lastX y_lastY y_lastBlocks n (nI i) y_op y_number y_kind y_target y_from x_edgeTo y_exit y_weight x_firstEdge y_tree (cd_fo y_back 0 i (fun _ => 0)) y_row y_length y_gone y_done y_went y_cut y_kept y_mark y_way y_tried y_stack) (cd_fs x_builtKinds nb + 1)
      (fun n => pk_le (cd_fs x_builtKinds nb + 1) (cd_fs x_builtKinds nb + 1) (fun _ => ?_) (fun h => absurd h (by omega)))
      (fun n i hi hn => pk_le (cd_fs x_builtKinds nb + 1) i (fun h => absurd h (by omega)) (fun h => ⟨pk_in i 37 (by omega), nm_r (cd_fo_z (by omega) rfl) (nm_r (nI_1 i) hn)⟩))
    rw [← hib]
    refine cd_loop (fun n i => wY_findBack_25 postY y_made y_blocks (nI (cd_fs x_builtKinds nb + 1)) y_paths y_many y_lastX y_lastY y_lastBlocks n (nI i) y_op y_number y_kind y_target y_from x_edgeTo y_exit y_weight x_firstEdge y_tree x_isBack y_row y_length y_gone y_done y_went y_cut y_kept (cd_fo y_mark 0 i (fun _ => 0)) y_way y_tried y_stack) 13
      (fun n => pk_le 13 13 (fun _ => nm_e (nm_e (nm_e ?_))) (fun h => absurd h (by omega)))
      (fun n i hi hn => pk_le 13 i (fun h => absurd h (by omega)) (fun h => ⟨pk_in i 13 (by omega), nm_r (cd_fo_z (by omega) rfl) (nm_r (nI_1 i) hn)⟩))
    refine hY _ _ _ (fun i hi => ?_) (mel _ (fun b hb => cd_fo_in (by omega) (by omega))) postY hpY
    have : i = 0 := by omega
    subst this
    exact ⟨pk_us, pk_us⟩
/-- X numbers the paths -/
theorem cd_xnum {post : SX → Prop} {nb ne : Nat} {G : Nat → Nat} {L : Nat → Prop} (hnb : nb ≤ 12) (hne : ne ≤ 37) (hto : ∀ e, e < ne → x_isBack e ≠ 0 → ∃ t : Nat, t < nb ∧ x_edgeTo e = nI t ∧ L t) (hL0 : L 0) (hpf : ∀ b, b < nb → L b → x_pathsFrom b = nI (G b))
    (hp : ∀ bg fp, cd_PB nb ne x_edgeTo x_isBack bg → (∀ b, b < nb → bg b ≠ 0 → L b) → (∀ b, b < nb → fp b = nI (cd_fp bg G b)) → post (x_blocks, (nI nb), (nI ne), (nI (cd_fp bg G nb)), x_runX, x_runY, x_runDone, x_ops, x_operands, x_kinds, x_targets, x_builtOps, x_builtOperands, x_builtKinds, x_firstEdge, x_edgeFrom, x_edgeExit, x_edgeTo, x_edgeWeight, x_inTree, x_isBack, bg, fp, x_pathsFrom, x_pathsBefore, x_counts, x_dumped, x_dumpKept, x_looked, x_joined, x_met, x_nextExit, x_way)) : wpX_numberPaths post (x_blocks, (nI nb), (nI ne), x_paths, x_runX, x_runY, x_runDone, x_ops, x_operands, x_kinds, x_targets, x_builtOps, x_builtOperands, x_builtKinds, x_firstEdge, x_edgeFrom, x_edgeExit, x_edgeTo, x_edgeWeight, x_inTree, x_isBack, x_beginsPaths, x_firstPath, x_pathsFrom, x_pathsBefore, x_counts, x_dumped, x_dumpKept, x_looked, x_joined, x_met, x_nextExit, x_way) := by
  have third : ∀ bg, cd_PB nb ne x_edgeTo x_isBack bg → ∃ n, wX_numberPaths_75 post x_blocks (nI nb) (nI ne) x_runX x_runY x_runDone n 0 0 x_ops x_operands x_kinds x_targets x_builtOps x_builtOperands x_builtKinds x_firstEdge x_edgeFrom x_edgeExit x_edgeTo x_edgeWeight x_inTree x_isBack bg x_firstPath x_pathsFrom x_pathsBefore x_counts x_dumped x_dumpKept x_looked x_joined x_met x_nextExit x_way := by
    intro bg hbg
    have hL : ∀ b, b < nb → bg b ≠ 0 → L b := by
      intro b hb hz
      rcases (hbg b hb).mp hz with e | ⟨e, h1, h2, h3⟩
      · rw [e]; exact hL0
      · obtain ⟨t, t1, t2, t3⟩ := hto e h1 h2
        rw [h3, nI_eq (by omega) (by omega)] at t2
        rw [t2]; exact t3
    refine cd_loop (fun n i => wX_numberPaths_75 post x_blocks (nI nb) (nI ne) x_runX x_runY x_runDone n (nI i) (nI (cd_fp bg G i)) x_ops x_operands x_kinds x_targets x_builtOps x_builtOperands x_builtKinds x_firstEdge x_edgeFrom x_edgeExit x_edgeTo x_edgeWeight x_inTree x_isBack bg (cd_fo x_firstPath 0 i (fun b => nI (cd_fp bg G b))) x_pathsFrom x_pathsBefore x_counts x_dumped x_dumpKept x_looked x_joined x_met x_nextExit x_way) nb
      (fun n => pk_le nb nb (fun _ => hp bg _ hbg hL (fun b hb => cd_fo_in (by omega) (by omega))) (fun h => absurd h (by omega)))
      (fun n i hi hn => pk_le nb i (fun h => absurd h (by omega)) (fun h => ⟨pk_in i 12 (by omega), nm_r (cd_fo_z (by omega) rfl) ⟨pk_in i 12 (by omega), ?_⟩⟩))
    rw [cd_cl (n := i) (by omega)]
    refine br_c (fun z => nm_r (nI_1 i) ?_) (fun z => ⟨pk_in i 12 (by omega), nm_r (e' := nI (cd_fp bg G (i + 1))) ?_ (nm_r (nI_1 i) hn)⟩)
    · have e : cd_fp bg G (i + 1) = cd_fp bg G i := by
        show cd_sm _ i + (if bg i = 0 then 0 else G i) = _
        rw [if_pos z]; rfl
      rw [e] at hn
      exact hn
    · have e : cd_fp bg G (i + 1) = cd_fp bg G i + G i := by
        show cd_sm _ i + (if bg i = 0 then 0 else G i) = _
        rw [if_neg z]; rfl
      rw [e, hpf i hi (hL i hi z), nI_add]
  have second : ∀ d e bg, e + d = ne → (∀ b, b < nb → (bg b ≠ 0 ↔ b = 0 ∨ ∃ f, f < e ∧ x_isBack f ≠ 0 ∧ x_edgeTo f = nI b)) → wX_numberPaths_33 post x_blocks (nI nb) (nI ne) x_paths x_runX x_runY x_runDone (d + 1) (nI e) x_ops x_operands x_kinds x_targets x_builtOps x_builtOperands x_builtKinds x_firstEdge x_edgeFrom x_edgeExit x_edgeTo x_edgeWeight x_inTree x_isBack bg x_firstPath x_pathsFrom x_pathsBefore x_counts x_dumped x_dumpKept x_looked x_joined x_met x_nextExit x_way := by
    intro d
    induction d with
    | zero =>
      intro e bg he hb
      have : e = ne := by omega
      subst this
      exact pk_le e e (fun _ => third bg hb) (fun h => absurd h (by omega))
    | succ d ih =>
      intro e bg he hb
      refine pk_le ne e (fun h => absurd h (by omega)) (fun _ => ⟨pk_in e 37 (by omega), ?_⟩)
      rw [cd_cl (n := e) (by omega)]
      refine br_c (fun z => nm_r (nI_1 e) (ih (e + 1) bg (by omega) (fun b hb2 => ?_))) (fun z => ?_)
      · rw [hb b hb2]
        constructor
        · rintro (g | ⟨f, f1, f2, f3⟩)
          · exact Or.inl g
          · exact Or.inr ⟨f, by omega, f2, f3⟩
        · rintro (g | ⟨f, f1, f2, f3⟩)
          · exact Or.inl g
          · by_cases g : f = e
            · subst g; exact absurd z f2
            · exact Or.inr ⟨f, by omega, f2, f3⟩
      · obtain ⟨t, t1, t2, t3⟩ := hto e (by omega) z
        rw [t2]
        refine ⟨pk_in e 37 (by omega), pk_in t 12 (by omega), nm_r (e' := upd bg t 1) (by rw [cd_cl (by omega)]; rfl) (nm_r (nI_1 e) (ih (e + 1) _ (by omega) (fun b hb2 => ?_)))⟩
        by_cases g : b = t
        · subst g
          rw [pk_us]
          exact ⟨fun _ => Or.inr ⟨e, by omega, z, t2⟩, fun _ => by decide⟩
        · rw [pk_un g, hb b hb2]
          constructor
          · rintro (g2 | ⟨f, f1, f2, f3⟩)
            · exact Or.inl g2
            · exact Or.inr ⟨f, by omega, f2, f3⟩
          · rintro (g2 | ⟨f, f1, f2, f3⟩)
            · exact Or.inl g2
            · by_cases g3 : f = e
              · subst g3
                rw [t2, nI_eq (by omega) (by omega)] at f3
                exact absurd f3.symm g
              · exact Or.inr ⟨f, by omega, f2, f3⟩
  refine cd_loop (fun n i => wX_numberPaths_2 post x_blocks (nI nb) (nI ne) x_paths x_runX x_runY x_runDone n (nI i) x_ops x_operands x_kinds x_targets x_builtOps x_builtOperands x_builtKinds x_firstEdge x_edgeFrom x_edgeExit x_edgeTo x_edgeWeight x_inTree x_isBack (cd_fo x_beginsPaths 0 i (fun b => if b = 0 then 1 else 0)) x_firstPath x_pathsFrom x_pathsBefore x_counts x_dumped x_dumpKept x_looked x_joined x_met x_nextExit x_way) nb
    (fun n => pk_le nb nb (fun _ => ⟨_, second ne 0 _ (by omega) (fun b hb => ?_)⟩) (fun h => absurd h (by omega)))
    (fun n i hi hn => pk_le nb i (fun h => absurd h (by omega)) (fun h => pk_eq i 0 (fun z => ⟨pk_in i 12 (by omega), nm_r (cd_fo_z (by omega) (by rw [if_pos z]; rfl)) (nm_r (nI_1 i) hn)⟩) (fun z => ⟨pk_in i 12 (by omega), nm_r (cd_fo_z (by omega) (by rw [if_neg z]; rfl)) (nm_r (nI_1 i) hn)⟩)))
  rw [cd_fo_in (by omega) (by omega), Nat.sub_zero]
  by_cases e : b = 0
  · rw [if_pos e]
    exact ⟨fun _ => Or.inl e, fun _ => by decide⟩
  · rw [if_neg e]
    exact ⟨fun z => absurd rfl z, fun z => by
      rcases z with z | ⟨f, f1, _⟩
      · exact absurd z e
      · omega⟩
end
