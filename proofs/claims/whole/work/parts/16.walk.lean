section
variable {x_blocks x_builtBlocks x_edges x_paths x_runX x_runY x_runDone : Int32} {x_ops x_operands x_kinds x_targets x_builtOps x_builtOperands x_builtKinds x_firstEdge x_edgeFrom x_edgeExit x_edgeTo x_edgeWeight x_inTree x_isBack x_beginsPaths x_firstPath x_pathsFrom x_pathsBefore x_counts x_dumped x_dumpKept x_looked x_joined x_met x_nextExit x_way : Nat → Int32} {y_made y_blocks y_edges y_paths y_many y_lastX y_lastY y_lastBlocks : Int32} {y_op y_number y_kind y_target y_from y_to y_exit y_weight y_firstEdge y_tree y_back y_row y_length y_gone y_done y_went y_cut y_kept y_mark y_way y_tried y_stack : Nat → Int32}
theorem cd_xcpf {post : SX → Prop} {nb b : Nat} {G : Nat → Nat} (hnb : nb ≤ 12) (hb : b < nb) (hfe : x_firstEdge b = nI (cd_fs x_builtKinds b))
    (hG : ∀ k, k < cd_ec (x_builtKinds b) → ¬ cd_en x_isBack x_edgeTo (cd_fs x_builtKinds b + k) → ∃ t : Nat, t < nb ∧ x_edgeTo (cd_fs x_builtKinds b + k) = nI t ∧ x_pathsFrom t = nI (G t))
    (hp : post (x_blocks, x_builtBlocks, x_edges, x_paths, x_runX, x_runY, x_runDone, x_ops, x_operands, x_kinds, x_targets, x_builtOps, x_builtOperands, x_builtKinds, x_firstEdge, x_edgeFrom, x_edgeExit, x_edgeTo, x_edgeWeight, x_inTree, x_isBack, x_beginsPaths, x_firstPath, (upd x_pathsFrom b (nI (cd_sm (cd_wt x_builtKinds x_edgeTo x_isBack G b) (cd_ec (x_builtKinds b))))), (cd_fo x_pathsBefore (cd_fs x_builtKinds b) (cd_ec (x_builtKinds b)) (fun k => nI (cd_sm (cd_wt x_builtKinds x_edgeTo x_isBack G b) k))), x_counts, x_dumped, x_dumpKept, x_looked, x_joined, x_met, x_nextExit, x_way)) : wpX_countPathsFrom post (x_blocks, x_builtBlocks, x_edges, x_paths, x_runX, x_runY, x_runDone, x_ops, x_operands, x_kinds, x_targets, x_builtOps, x_builtOperands, x_builtKinds, x_firstEdge, x_edgeFrom, x_edgeExit, x_edgeTo, x_edgeWeight, x_inTree, x_isBack, x_beginsPaths, x_firstPath, x_pathsFrom, x_pathsBefore, x_counts, x_dumped, x_dumpKept, x_looked, x_joined, x_met, x_nextExit, x_way) (nI b) := by
  have hfs := cd_fs_lt (kd := x_builtKinds) hb
  have hfb := (cd_fs_b x_builtKinds nb).2
  have cb := cd_cl (n := b) (by omega)
  unfold wpX_countPathsFrom
  dsimp only
  rw [cb]
  refine ⟨pk_in b 12 (by omega), pk_in b 12 (by omega), cd_xec (nm_r (e' := nI (cd_fs x_builtKinds b + cd_ec (x_builtKinds b))) (by rw [hfe, nI_add]) ⟨pk_in b 12 (by omega), nm_r hfe ?_⟩)⟩
  refine cd_loop (fun n k => wX_countPathsFrom_27 post (nI b) (nI (cd_fs x_builtKinds b + cd_ec (x_builtKinds b))) x_blocks x_builtBlocks x_edges x_paths x_runX x_runY x_runDone n (nI (cd_sm (cd_wt x_builtKinds x_edgeTo x_isBack G b) k)) (nI (cd_fs x_builtKinds b + k)) x_ops x_operands x_kinds x_targets x_builtOps x_builtOperands x_builtKinds x_firstEdge x_edgeFrom x_edgeExit x_edgeTo x_edgeWeight x_inTree x_isBack x_beginsPaths x_firstPath x_pathsFrom (cd_fo x_pathsBefore (cd_fs x_builtKinds b) k (fun k => nI (cd_sm (cd_wt x_builtKinds x_edgeTo x_isBack G b) k))) x_counts x_dumped x_dumpKept x_looked x_joined x_met x_nextExit x_way) (cd_ec (x_builtKinds b)) (fun n => ?_) (fun n k hk hn => ?_)
  · refine pk_le (cd_fs x_builtKinds b + cd_ec (x_builtKinds b)) (cd_fs x_builtKinds b + cd_ec (x_builtKinds b)) (fun _ => ⟨pk_in b 12 (by omega), ?_⟩) (fun h => absurd h (by omega))
    rw [cb]
    exact nm_e hp
  · refine pk_le (cd_fs x_builtKinds b + cd_ec (x_builtKinds b)) (cd_fs x_builtKinds b + k) (fun h => absurd h (by omega)) (fun _ => ⟨pk_in (cd_fs x_builtKinds b + k) 37 (by omega), nm_r (cd_fo_u rfl (by omega) rfl) (cd_xend rfl (by omega) (fun hen => br_f (by decide) (nm_r (e' := nI (cd_sm (cd_wt x_builtKinds x_edgeTo x_isBack G b) (k + 1))) ?_ (nm_r (nI_1 _) hn))) (fun hen => br_t rfl ⟨pk_in (cd_fs x_builtKinds b + k) 37 (by omega), ?_⟩))⟩)
    · show _ = nI (cd_sm _ k + cd_wt x_builtKinds x_edgeTo x_isBack G b k)
      rw [cd_wt1 hen]
      exact nI_1 _
    · obtain ⟨t, t1, t2, t3⟩ := hG k hk hen
      rw [cd_cl (by omega), t2]
      refine ⟨pk_in t 12 (by omega), nm_r (e' := nI (cd_sm (cd_wt x_builtKinds x_edgeTo x_isBack G b) (k + 1))) ?_ (nm_r (nI_1 _) hn)⟩
      show _ = nI (cd_sm _ k + cd_wt x_builtKinds x_edgeTo x_isBack G b k)
      have hw : cd_wt x_builtKinds x_edgeTo x_isBack G b k = G t := by
        unfold cd_wt
        rw [if_pos ⟨Decidable.byContradiction (fun z => hen (Or.inl z)), fun z => hen (Or.inr z)⟩, t2, cd_cl (by omega)]
      rw [hw, cd_cl (by omega), t3, nI_add]
theorem cd_xlne {post : Int32 → SX → Prop} {nb b x : Nat} (hnb : nb ≤ 12) (hb : b < nb) (hfe : x_firstEdge b = nI (cd_fs x_builtKinds b)) (hx : x < cd_ec (x_builtKinds b)) (hnx : x_nextExit b = nI x)
    (h0 : x_edgeTo (cd_fs x_builtKinds b + x) = -1 → post (-1) (x_blocks, x_builtBlocks, x_edges, x_paths, x_runX, x_runY, x_runDone, x_ops, x_operands, x_kinds, x_targets, x_builtOps, x_builtOperands, x_builtKinds, x_firstEdge, x_edgeFrom, x_edgeExit, x_edgeTo, x_edgeWeight, x_inTree, (upd x_isBack (cd_fs x_builtKinds b + x) 0), x_beginsPaths, x_firstPath, x_pathsFrom, x_pathsBefore, x_counts, x_dumped, x_dumpKept, x_looked, x_joined, x_met, (upd x_nextExit b (nI (x + 1))), x_way))
    (h1 : ∀ t, t < nb → x_edgeTo (cd_fs x_builtKinds b + x) = nI t → x_met t = 1 → post (nI t) (x_blocks, x_builtBlocks, x_edges, x_paths, x_runX, x_runY, x_runDone, x_ops, x_operands, x_kinds, x_targets, x_builtOps, x_builtOperands, x_builtKinds, x_firstEdge, x_edgeFrom, x_edgeExit, x_edgeTo, x_edgeWeight, x_inTree, (upd x_isBack (cd_fs x_builtKinds b + x) 1), x_beginsPaths, x_firstPath, x_pathsFrom, x_pathsBefore, x_counts, x_dumped, x_dumpKept, x_looked, x_joined, x_met, (upd x_nextExit b (nI (x + 1))), x_way))
    (h2 : ∀ t, t < nb → x_edgeTo (cd_fs x_builtKinds b + x) = nI t → ¬ x_met t = 1 → post (nI t) (x_blocks, x_builtBlocks, x_edges, x_paths, x_runX, x_runY, x_runDone, x_ops, x_operands, x_kinds, x_targets, x_builtOps, x_builtOperands, x_builtKinds, x_firstEdge, x_edgeFrom, x_edgeExit, x_edgeTo, x_edgeWeight, x_inTree, (upd x_isBack (cd_fs x_builtKinds b + x) 0), x_beginsPaths, x_firstPath, x_pathsFrom, x_pathsBefore, x_counts, x_dumped, x_dumpKept, x_looked, x_joined, x_met, (upd x_nextExit b (nI (x + 1))), x_way))
    (hto : x_edgeTo (cd_fs x_builtKinds b + x) = -1 ∨ ∃ t : Nat, t < nb ∧ x_edgeTo (cd_fs x_builtKinds b + x) = nI t) : wpX_lookAtNextExit post (x_blocks, x_builtBlocks, x_edges, x_paths, x_runX, x_runY, x_runDone, x_ops, x_operands, x_kinds, x_targets, x_builtOps, x_builtOperands, x_builtKinds, x_firstEdge, x_edgeFrom, x_edgeExit, x_edgeTo, x_edgeWeight, x_inTree, x_isBack, x_beginsPaths, x_firstPath, x_pathsFrom, x_pathsBefore, x_counts, x_dumped, x_dumpKept, x_looked, x_joined, x_met, x_nextExit, x_way) (nI b) := by
  have hfs := cd_fs_lt (kd := x_builtKinds) hb
  have hfb := (cd_fs_b x_builtKinds nb).2
  have cb := cd_cl (n := b) (by omega)
  have i := pk_in b 12 (by omega) (x := nI b)
  have ie : vp_in (nI (cd_fs x_builtKinds b + x)) 37 := pk_in (cd_fs x_builtKinds b + x) 37 (by omega)
  have ce := cd_cl (n := cd_fs x_builtKinds b + x) (by omega)
  unfold wpX_lookAtNextExit
  dsimp only
  rw [cb]
  refine ⟨i, i, nm_r (e' := nI (cd_fs x_builtKinds b + x)) (by rw [hfe, hnx, nI_add]) ⟨i, i, nm_r (e' := upd x_nextExit b (nI (x + 1))) (by rw [hnx, nI_1]) ⟨ie, ?_⟩⟩⟩
  rw [ce]
  refine nm_e (br_c (fun g => ⟨ie, nm_e ?_⟩) (fun g => ?_))
  · rw [g]; exact h0 g
  · obtain ⟨t, t1, t2⟩ := hto.resolve_left g
    rw [t2, cd_cl (by omega)]
    exact ⟨pk_in t 12 (by omega), br_c (fun z => ⟨ie, nm_e (h1 t t1 t2 z)⟩) (fun z => ⟨ie, nm_e (h2 t t1 t2 z)⟩)⟩
theorem cd_dfs {nb : Nat} (hnb : nb ≤ 12) (hnb0 : 0 < nb) (hfe : ∀ b, b < nb → x_firstEdge b = nI (cd_fs x_builtKinds b)) (hkd : ∀ b, b < nb → y_kind (12 + b) = x_builtKinds b ∧ ∃ k : Nat, k < 6 ∧ x_builtKinds b = nI k) (hto : ∀ e, e < cd_fs x_builtKinds nb + 1 → x_edgeTo e = -1 ∨ ∃ t : Nat, t < nb ∧ x_edgeTo e = nI t) :
    ∀ R d c s (w m x rk G : Nat → Nat) (ib pf pb met nx way : Nat → Int32) (post : SX → Prop), cd_XI nb d c x_builtKinds x_edgeTo ib pf pb w m x rk G → (∀ i, i < d → way i = nI (w i)) → (∀ b, b < nb → met b = nI (m b) ∧ nx b = nI (x b)) → cd_re nb x_builtKinds m x = R → s + R ≤ 48 →
      (∀ c' w' m' x' rk' G' ib' pf' pb' met' nx' way', cd_XI nb 0 c' x_builtKinds x_edgeTo ib' pf' pb' w' m' x' rk' G' → (∀ (mk tr st : Nat → Int32), (∀ i, i < d → st i = nI (w i) ∧ tr i = nI (x (w i))) → (∀ b, b < nb → mk b = nI (m b)) → ∀ postY : SY → Prop, (∀ mk' tr' st', postY (y_made, y_blocks, y_edges, y_paths, y_many, y_lastX, y_lastY, y_lastBlocks, y_op, y_number, y_kind, y_target, y_from, x_edgeTo, y_exit, y_weight, x_firstEdge, y_tree, ib', y_row, y_length, y_gone, y_done, y_went, y_cut, y_kept, mk', y_way, tr', st')) → ∃ n, wY_findBack_67 postY y_made y_blocks y_edges y_paths y_many y_lastX y_lastY y_lastBlocks n (nI (d)) y_op y_number y_kind y_target y_from x_edgeTo y_exit y_weight x_firstEdge y_tree ib y_row y_length y_gone y_done y_went y_cut y_kept mk y_way tr st) → post (x_blocks, (nI nb), x_edges, x_paths, x_runX, x_runY, x_runDone, x_ops, x_operands, x_kinds, x_targets, x_builtOps, x_builtOperands, x_builtKinds, x_firstEdge, x_edgeFrom, x_edgeExit, x_edgeTo, x_edgeWeight, x_inTree, ib', x_beginsPaths, x_firstPath, pf', pb', x_counts, x_dumped, x_dumpKept, x_looked, x_joined, met', nx', way')) → ∃ n, wX_findBackEdges_48 post n (nI d) (nI s) x_blocks (nI nb) x_edges x_paths x_runX x_runY x_runDone x_ops x_operands x_kinds x_targets x_builtOps x_builtOperands x_builtKinds x_firstEdge x_edgeFrom x_edgeExit x_edgeTo x_edgeWeight x_inTree ib x_beginsPaths x_firstPath pf pb x_counts x_dumped x_dumpKept x_looked x_joined met nx way := by
  have hfb := (cd_fs_b x_builtKinds nb).2
  intro R
  induction R with
  | zero =>
    intro d c s w m x rk G ib pf pb met nx way post hI hw hl hR hs hp
    have hd : d = 0 := by
      by_cases g : d = 0
      · exact g
      · exfalso
        obtain ⟨h1, h2, h3, h4, _⟩ := hI
        obtain ⟨a1, a2⟩ := h1 0 (by omega)
        have := cd_sm_0 (f := fun b => if m b = 2 then 0 else 1 + cd_ec (x_builtKinds b) - x b) hR a1
        rw [if_neg (by omega)] at this
        have := (h4 (w 0) a1).2.1
        omega
    subst hd
    have P := hp c w m x rk G ib pf pb met nx way hI (fun mk tr st _ _ postY hY => ⟨1, pk_le 0 0 (fun _ => hY mk tr st) (fun h => absurd h (by omega))⟩)
    exact ⟨1, pk_le 48 s (fun _ => P) (fun _ => pk_le 0 0 (fun _ => P) (fun h => absurd h (by omega)))⟩
  | succ R ih =>
    intro d c s w m x rk G ib pf pb met nx way post hI hw hl hR hs hp
    cases d with
    | zero =>
      have P := hp c w m x rk G ib pf pb met nx way hI (fun mk tr st _ _ postY hY => ⟨1, pk_le 0 0 (fun _ => hY mk tr st) (fun h => absurd h (by omega))⟩)
      exact ⟨1, pk_le 48 s (fun _ => P) (fun _ => pk_le 0 0 (fun _ => P) (fun h => absurd h (by omega)))⟩
    | succ d =>
      obtain ⟨hb, hmb⟩ := hI.1 d (by omega)
      have hxle := (hI.2.2.2.1 (w d) hb).2.1
      have hd12 : d + 1 ≤ nb := by have := hI.2.2.2.2.1; omega
      have hwd : ∀ i, i < d → w i ≠ w d := fun i hi e => by have := hI.2.1 i d (by omega) (by omega) e; omega
      have hwy := hw d (by omega)
      obtain ⟨hme, hne⟩ := hl (w d) hb
      have hfsl := cd_fs_lt (kd := x_builtKinds) hb
      have cd1 : nI (d + 1) - 1 = nI d := nI_pred d
      have cdd := cd_cl (n := d) (by omega)
      have cb := cd_cl (n := w d) (by omega)
      have c12 : (12 : Int32) + nI (w d) = nI (12 + w d) := nI_add 12 _
      have cc12 := cd_cl (n := 12 + w d) (by omega)
      have hecr := cd_ec_r (x_builtKinds (w d))
      -- X's turn up to the choice
      have XT : ∀ n, (nI (x (w d)) = nI (cd_ec (x_builtKinds (w d))) → ∀ mt, mt = upd met (w d) 2 → wpX_countPathsFrom (fun u => match u with | (u_blocks, u_builtBlocks, u_edges, u_paths, u_runX, u_runY, u_runDone, u_ops, u_operands, u_kinds, u_targets, u_builtOps, u_builtOperands, u_builtKinds, u_firstEdge, u_edgeFrom, u_edgeExit, u_edgeTo, u_edgeWeight, u_inTree, u_isBack, u_beginsPaths, u_firstPath, u_pathsFrom, u_pathsBefore, u_counts, u_dumped, u_dumpKept, u_looked, u_joined, u_met, u_nextExit, u_way) => ∀ x1, x1 = nI (d + 1) + (-1) → ∀ x2, x2 = nI s + 1 → wX_findBackEdges_48 post n x1 x2 u_blocks u_builtBlocks u_edges u_paths u_runX u_runY u_runDone u_ops u_operands u_kinds u_targets u_builtOps u_builtOperands u_builtKinds u_firstEdge u_edgeFrom u_edgeExit u_edgeTo u_edgeWeight u_inTree u_isBack u_beginsPaths u_firstPath u_pathsFrom u_pathsBefore u_counts u_dumped u_dumpKept u_looked u_joined u_met u_nextExit u_way) (x_blocks, (nI nb), x_edges, x_paths, x_runX, x_runY, x_runDone, x_ops, x_operands, x_kinds, x_targets, x_builtOps, x_builtOperands, x_builtKinds, x_firstEdge, x_edgeFrom, x_edgeExit, x_edgeTo, x_edgeWeight, x_inTree, ib, x_beginsPaths, x_firstPath, pf, pb, x_counts, x_dumped, x_dumpKept, x_looked, x_joined, mt, nx, way) (nI (w d))) →
          (¬ nI (x (w d)) = nI (cd_ec (x_builtKinds (w d))) → wpX_lookAtNextExit (fun r u => match u with | (u_blocks, u_builtBlocks, u_edges, u_paths, u_runX, u_runY, u_runDone, u_ops, u_operands, u_kinds, u_targets, u_builtOps, u_builtOperands, u_builtKinds, u_firstEdge, u_edgeFrom, u_edgeExit, u_edgeTo, u_edgeWeight, u_inTree, u_isBack, u_beginsPaths, u_firstPath, u_pathsFrom, u_pathsBefore, u_counts, u_dumped, u_dumpKept, u_looked, u_joined, u_met, u_nextExit, u_way) => ((r = (-1) → ∀ x2, x2 = nI s + 1 → wX_findBackEdges_48 post n (nI (d + 1)) x2 u_blocks u_builtBlocks u_edges u_paths u_runX u_runY u_runDone u_ops u_operands u_kinds u_targets u_builtOps u_builtOperands u_builtKinds u_firstEdge u_edgeFrom u_edgeExit u_edgeTo u_edgeWeight u_inTree u_isBack u_beginsPaths u_firstPath u_pathsFrom u_pathsBefore u_counts u_dumped u_dumpKept u_looked u_joined u_met u_nextExit u_way) ∧ (¬ r = (-1) → (vp_in r 12 ∧ ((u_met r.toNatClampNeg = 0 → (vp_in r 12 ∧ ∀ mt, mt = upd u_met r.toNatClampNeg 1 → (vp_in (nI (d + 1)) 12 ∧ ∀ wy, wy = upd u_way (nI (d + 1)).toNatClampNeg r → ∀ x1, x1 = nI (d + 1) + 1 → ∀ x2, x2 = nI s + 1 → wX_findBackEdges_48 post n x1 x2 u_blocks u_builtBlocks u_edges u_paths u_runX u_runY u_runDone u_ops u_operands u_kinds u_targets u_builtOps u_builtOperands u_builtKinds u_firstEdge u_edgeFrom u_edgeExit u_edgeTo u_edgeWeight u_inTree u_isBack u_beginsPaths u_firstPath u_pathsFrom u_pathsBefore u_counts u_dumped u_dumpKept u_looked u_joined mt u_nextExit wy))) ∧ (¬ u_met r.toNatClampNeg = 0 → ∀ x2, x2 = nI s + 1 → wX_findBackEdges_48 post n (nI (d + 1)) x2 u_blocks u_builtBlocks u_edges u_paths u_runX u_runY u_runDone u_ops u_operands u_kinds u_targets u_builtOps u_builtOperands u_builtKinds u_firstEdge u_edgeFrom u_edgeExit u_edgeTo u_edgeWeight u_inTree u_isBack u_beginsPaths u_firstPath u_pathsFrom u_pathsBefore u_counts u_dumped u_dumpKept u_looked u_joined u_met u_nextExit u_way)))))) (x_blocks, (nI nb), x_edges, x_paths, x_runX, x_runY, x_runDone, x_ops, x_operands, x_kinds, x_targets, x_builtOps, x_builtOperands, x_builtKinds, x_firstEdge, x_edgeFrom, x_edgeExit, x_edgeTo, x_edgeWeight, x_inTree, ib, x_beginsPaths, x_firstPath, pf, pb, x_counts, x_dumped, x_dumpKept, x_looked, x_joined, met, nx, way) (nI (w d))) → wX_findBackEdges_48 post (n + 1) (nI (d + 1)) (nI s) x_blocks (nI nb) x_edges x_paths x_runX x_runY x_runDone x_ops x_operands x_kinds x_targets x_builtOps x_builtOperands x_builtKinds x_firstEdge x_edgeFrom x_edgeExit x_edgeTo x_edgeWeight x_inTree ib x_beginsPaths x_firstPath pf pb x_counts x_dumped x_dumpKept x_looked x_joined met nx way := by
        intro n hA hB
        refine pk_le 48 s (fun h => absurd h (by omega)) (fun _ => pk_le (d + 1) 0 (fun h => absurd h (by omega)) (fun _ => ⟨pk_in d 12 (by omega) cd1, ?_⟩))
        rw [cd1, cdd, hwy]
        refine nm_e ⟨pk_in (w d) 12 (by omega), pk_in (w d) 12 (by omega), ?_⟩
        rw [cb, hne]
        exact cd_xec (br_c (fun z => ⟨pk_in (w d) 12 (by omega), hA z⟩) (fun z => hB z))
      -- Y's turn up to the choice
      have YT : ∀ (mk tr st : Nat → Int32) (postY : SY → Prop) n, (∀ i, i < d + 1 → st i = nI (w i) ∧ tr i = nI (x (w i))) → (nI (x (w d)) = nI (cd_ec (x_builtKinds (w d))) → wY_findBack_67 postY y_made y_blocks y_edges y_paths y_many y_lastX y_lastY y_lastBlocks n (nI d) y_op y_number y_kind y_target y_from x_edgeTo y_exit y_weight x_firstEdge y_tree ib y_row y_length y_gone y_done y_went y_cut y_kept (upd mk (w d) 2) y_way tr st) →
          (¬ nI (x (w d)) = nI (cd_ec (x_builtKinds (w d))) → ((0 ≤ x_edgeTo (cd_fs x_builtKinds (w d) + x (w d)) → (vp_in (x_edgeTo (cd_fs x_builtKinds (w d) + x (w d))) 13 ∧ ((mk (x_edgeTo (cd_fs x_builtKinds (w d) + x (w d))).toNatClampNeg = 1 → wY_findBack_176 postY (wY_findBack_67 postY y_made y_blocks y_edges y_paths y_many y_lastX y_lastY y_lastBlocks n) (nI (d + 1)) (x_edgeTo (cd_fs x_builtKinds (w d) + x (w d))) y_made y_blocks y_edges y_paths y_many y_lastX y_lastY y_lastBlocks y_op y_number y_kind y_target y_from x_edgeTo y_exit y_weight x_firstEdge y_tree (upd ib (cd_fs x_builtKinds (w d) + x (w d)) 1) y_row y_length y_gone y_done y_went y_cut y_kept mk y_way (upd tr d (nI (x (w d) + 1))) st) ∧ (¬ mk (x_edgeTo (cd_fs x_builtKinds (w d) + x (w d))).toNatClampNeg = 1 → wY_findBack_176 postY (wY_findBack_67 postY y_made y_blocks y_edges y_paths y_many y_lastX y_lastY y_lastBlocks n) (nI (d + 1)) (x_edgeTo (cd_fs x_builtKinds (w d) + x (w d))) y_made y_blocks y_edges y_paths y_many y_lastX y_lastY y_lastBlocks y_op y_number y_kind y_target y_from x_edgeTo y_exit y_weight x_firstEdge y_tree ib y_row y_length y_gone y_done y_went y_cut y_kept mk y_way (upd tr d (nI (x (w d) + 1))) st)))) ∧ (¬ 0 ≤ x_edgeTo (cd_fs x_builtKinds (w d) + x (w d)) → wY_findBack_67 postY y_made y_blocks y_edges y_paths y_many y_lastX y_lastY y_lastBlocks n (nI (d + 1)) y_op y_number y_kind y_target y_from x_edgeTo y_exit y_weight x_firstEdge y_tree ib y_row y_length y_gone y_done y_went y_cut y_kept mk y_way (upd tr d (nI (x (w d) + 1))) st))) →
          wY_findBack_67 postY y_made y_blocks y_edges y_paths y_many y_lastX y_lastY y_lastBlocks (n + 1) (nI (d + 1)) y_op y_number y_kind y_target y_from x_edgeTo y_exit y_weight x_firstEdge y_tree ib y_row y_length y_gone y_done y_went y_cut y_kept mk y_way tr st := by
        intro mk tr st postY n hst hA hB
        obtain ⟨s1, s2⟩ := hst d (by omega)
        have hfeb := hfe (w d) hb
        obtain ⟨hkdb, hk6⟩ := hkd (w d) hb
        refine pk_le (d + 1) 0 (fun h => absurd h (by omega)) (fun _ => ⟨pk_in d 13 (by omega) cd1, ?_⟩)
        rw [cd1, cdd, s1]
        refine nm_e ⟨pk_in d 13 (by omega), ?_⟩
        rw [s2]
        refine nm_e ⟨pk_in (12 + w d) 24 (by omega) c12, ?_⟩
        rw [c12, cc12, hkdb, cb]
        refine cd_yec hk6 (br_c (fun z => ⟨pk_in (w d) 13 (by omega), nm_e (nm_r (pk_m1 d) (hA z))⟩) (fun z => ?_))
        have hxlt : x (w d) < cd_ec (x_builtKinds (w d)) := by
          rw [nI_eq (by omega) (by omega)] at z; omega
        refine ⟨pk_in d 13 (by omega), pk_in d 13 (by omega), nm_r (e' := upd tr d (nI (x (w d) + 1))) (by rw [nI_1]) ⟨pk_in (w d) 13 (by omega), nm_r (e' := nI (cd_fs x_builtKinds (w d) + x (w d))) (by rw [hfeb, nI_add]) ⟨pk_in (cd_fs x_builtKinds (w d) + x (w d)) 37 (by omega), ?_⟩⟩⟩
        rw [cd_cl (n := cd_fs x_builtKinds (w d) + x (w d)) (by omega)]
        refine nm_e (br_c (fun y => ⟨?_, ?_⟩) (fun y => ?_))
        · exact ((hB z).1 y).1
        · refine br_c (fun v => ⟨pk_in (cd_fs x_builtKinds (w d) + x (w d)) 37 (by omega), nm_e (((hB z).1 y).2.1 v)⟩) (fun v => ((hB z).1 y).2.2 v)
        · exact (hB z).2 y
      by_cases hx : x (w d) = cd_ec (x_builtKinds (w d))
      · -- the block is left
        obtain ⟨hI', hre, hG'⟩ := cd_XI_leave hnb hI hx
        have I2 := ih d (c + 1) (s + 1) w (cd_fu m (w d) 2) x _ _ ib _ _ (upd met (w d) 2) nx way post hI' (fun i hi => hw i (by omega)) (fun b hb2 => by
          refine ⟨?_, (hl b hb2).2⟩
          by_cases e : b = w d
          · subst e; rw [pk_us, cd_fus]; rfl
          · rw [pk_un e, cd_fun e]; exact (hl b hb2).1) (by omega) (by omega) (fun c' w' m' x' rk' G' ib' pf' pb' met' nx' way' hF hY => hp c' w' m' x' rk' G' ib' pf' pb' met' nx' way' hF (fun mk tr st hst hmk postY hpY => by
            obtain ⟨n, hn⟩ := hY (upd mk (w d) 2) tr st (fun i hi => hst i (by omega)) (fun b hb2 => by
              by_cases e : b = w d
              · subst e; rw [pk_us, cd_fus]; rfl
              · rw [pk_un e, cd_fun e]; exact hmk b hb2) postY hpY
            exact ⟨n + 1, YT mk tr st postY n hst (fun _ => hn) (fun z => absurd (congrArg nI hx) z)⟩))
        obtain ⟨n, hn⟩ := I2
        refine ⟨n + 1, XT n (fun _ => nm_e (cd_xcpf hnb hb (hfe (w d) hb) hG' (nm_r (pk_m1 d) (nm_r (nI_1 s) hn)))) (fun z => absurd (congrArg nI hx) z)⟩
      · have hxlt : x (w d) < cd_ec (x_builtKinds (w d)) := by omega
        have hxne : ¬ nI (x (w d)) = nI (cd_ec (x_builtKinds (w d))) := by rw [nI_eq (by omega) (by omega)]; exact hx
        have hib0 : ib (cd_fs x_builtKinds (w d) + x (w d)) = 0 := hI.2.2.2.2.2.2.2.1 (w d) hb (x (w d)) (Nat.le_refl _) hxlt
        have hto' := hto (cd_fs x_builtKinds (w d) + x (w d)) (by omega)
        have nxl : ∀ b, b < nb → upd nx (w d) (nI (x (w d) + 1)) b = nI (cd_fu x (w d) (x (w d) + 1) b) := by
          intro b hb2
          by_cases e : b = w d
          · subst e; rw [pk_us, cd_fus]
          · rw [pk_un e, cd_fun e]; exact (hl b hb2).2
        have trl : ∀ (tr st : Nat → Int32), (∀ i, i < d + 1 → st i = nI (w i) ∧ tr i = nI (x (w i))) → ∀ i, i < d + 1 → st i = nI (w i) ∧ upd tr d (nI (x (w d) + 1)) i = nI (cd_fu x (w d) (x (w d) + 1) (w i)) := by
          intro tr st hst i hi
          refine ⟨(hst i hi).1, ?_⟩
          by_cases e : i = d
          · subst e; rw [pk_us, cd_fus]
          · rw [pk_un e, cd_fun (hwd i (by omega))]; exact (hst i hi).2
        rcases hto' with hout | ⟨t, ht, hte⟩
        · -- outside
          obtain ⟨hI', hre⟩ := cd_XI_look (v := 0) hnb hI hxlt (Or.inl hout) (fun _ => rfl)
          have I2 := ih (d + 1) c (s + 1) w m (cd_fu x (w d) (x (w d) + 1)) rk G (upd ib (cd_fs x_builtKinds (w d) + x (w d)) 0) pf pb met (upd nx (w d) (nI (x (w d) + 1))) way post hI' hw (fun b hb2 => ⟨(hl b hb2).1, nxl b hb2⟩) (by omega) (by omega) (fun c' w' m' x' rk' G' ib' pf' pb' met' nx' way' hF hY => hp c' w' m' x' rk' G' ib' pf' pb' met' nx' way' hF (fun mk tr st hst hmk postY hpY => by
            obtain ⟨n, hn⟩ := hY mk (upd tr d (nI (x (w d) + 1))) st (trl tr st hst) hmk postY hpY
            rw [cd_upd_id hib0.symm] at hn
            exact ⟨n + 1, YT mk tr st postY n hst (fun z => absurd z hxne) (fun _ => br_f (by rw [hout]; decide) hn)⟩))
          obtain ⟨n, hn⟩ := I2
          refine ⟨n + 1, XT n (fun z => absurd z hxne) (fun _ => cd_xlne hnb hb (hfe (w d) hb) hxlt hne (fun _ => br_t rfl (nm_r (nI_1 s) hn)) (fun t _ e => absurd (hout.symm.trans e).symm (cd_nm1 (by omega))) (fun t _ e => absurd (hout.symm.trans e).symm (cd_nm1 (by omega))) (Or.inl hout))⟩
        · have ct : (x_edgeTo (cd_fs x_builtKinds (w d) + x (w d))).toNatClampNeg = t := by rw [hte, cd_cl (by omega)]
          have hmt := (hl t ht).1
          have hm2 := (hI.2.2.2.1 t ht).1
          have Yge : (0 : Int32) ≤ x_edgeTo (cd_fs x_builtKinds (w d) + x (w d)) := by rw [hte]; exact nI_pos' (by omega)
          have Yin : vp_in (x_edgeTo (cd_fs x_builtKinds (w d) + x (w d))) 13 := by rw [hte]; exact pk_in t 13 (by omega)
          have same : ∀ t', t' < nb → x_edgeTo (cd_fs x_builtKinds (w d) + x (w d)) = nI t' → t' = t := by
            intro t' h1 h2
            rw [hte, nI_eq (by omega) (by omega)] at h2
            exact h2.symm
          by_cases hm1 : m t = 1
          · -- a back edge
            obtain ⟨hI', hre⟩ := cd_XI_look (v := 1) hnb hI hxlt (Or.inr ⟨t, ht, hte, by omega, fun z => absurd z (show ¬ (1 : Int32) = 0 by decide)⟩) (fun z => absurd (hte.symm.trans z) (cd_nm1 (by omega)))
            have I2 := ih (d + 1) c (s + 1) w m (cd_fu x (w d) (x (w d) + 1)) rk G (upd ib (cd_fs x_builtKinds (w d) + x (w d)) 1) pf pb met (upd nx (w d) (nI (x (w d) + 1))) way post hI' hw (fun b hb2 => ⟨(hl b hb2).1, nxl b hb2⟩) (by omega) (by omega) (fun c' w' m' x' rk' G' ib' pf' pb' met' nx' way' hF hY => hp c' w' m' x' rk' G' ib' pf' pb' met' nx' way' hF (fun mk tr st hst hmk postY hpY => by
              obtain ⟨n, hn⟩ := hY mk (upd tr d (nI (x (w d) + 1))) st (trl tr st hst) hmk postY hpY
              have hmkt := hmk t ht
              rw [hm1] at hmkt
              refine ⟨n + 1, YT mk tr st postY n hst (fun z => absurd z hxne) (fun _ => br_t Yge ⟨Yin, br_t (by rw [ct, hmkt]; rfl) ⟨Yin, ?_⟩⟩)⟩
              rw [ct, hmkt]
              exact br_f (by decide) hn))
            obtain ⟨n, hn⟩ := I2
            rw [hm1] at hmt
            refine ⟨n + 1, XT n (fun z => absurd z hxne) (fun _ => cd_xlne hnb hb (hfe (w d) hb) hxlt hne (fun e => absurd (hte.symm.trans e) (cd_nm1 (by omega))) (fun t' h1 h2 _ => ?_) (fun t' h1 h2 h3 => ?_) (Or.inr ⟨t, ht, hte⟩))⟩
            · rw [same t' h1 h2]
              refine br_f (cd_nm1 (by omega)) ⟨pk_in t 12 (by omega), ?_⟩
              rw [cd_cl (by omega), hmt]
              exact br_f (by decide) (nm_r (nI_1 s) hn)
            · rw [same t' h1 h2, hmt] at h3
              exact absurd rfl h3
          · by_cases hm0 : m t = 0
            · -- a new block
              obtain ⟨hI', hre, hdn⟩ := cd_XI_push hnb hI hxlt ht hte hm0
              have hte2 : w d ≠ t := fun e => by rw [← e, hmb] at hm0; omega
              have wyl : ∀ i, i < d + 1 + 1 → upd way (d + 1) (nI t) i = nI (cd_fu w (d + 1) t i) := by
                intro i hi
                by_cases e : i = d + 1
                · subst e; rw [pk_us, cd_fus]
                · rw [pk_un e, cd_fun e]; exact hw i (by omega)
              have mel : ∀ (f : Nat → Int32), (∀ b, b < nb → f b = nI (m b)) → ∀ b, b < nb → upd f t 1 b = nI (cd_fu m t 1 b) := by
                intro f hf b hb2
                by_cases e : b = t
                · subst e; rw [pk_us, cd_fus]; rfl
                · rw [pk_un e, cd_fun e]; exact hf b hb2
              have I2 := ih (d + 1 + 1) c (s + 1) (cd_fu w (d + 1) t) (cd_fu m t 1) (cd_fu x (w d) (x (w d) + 1)) rk G ib pf pb (upd met t 1) (upd nx (w d) (nI (x (w d) + 1))) (upd way (d + 1) (nI t)) post hI' wyl (fun b hb2 => ⟨mel met (fun b h => (hl b h).1) b hb2, nxl b hb2⟩) (by omega) (by omega) (fun c' w' m' x' rk' G' ib' pf' pb' met' nx' way' hF hY => hp c' w' m' x' rk' G' ib' pf' pb' met' nx' way' hF (fun mk tr st hst hmk postY hpY => by
                obtain ⟨n, hn⟩ := hY (upd mk t 1) (upd (upd tr d (nI (x (w d) + 1))) (d + 1) 0) (upd st (d + 1) (nI t)) (fun i hi => by
                  by_cases e : i = d + 1
                  · subst e
                    rw [pk_us, pk_us, cd_fus, cd_fun (fun z => hte2 z.symm), (hI.2.2.2.1 t ht).2.2.1 hm0]
                    exact ⟨rfl, rfl⟩
                  · rw [pk_un e, pk_un e, cd_fun e]
                    exact trl tr st hst i (by omega)) (mel mk hmk) postY hpY
                have hmkt := hmk t ht
                rw [hm0] at hmkt
                refine ⟨n + 1, YT mk tr st postY n hst (fun z => absurd z hxne) (fun _ => br_t Yge ⟨Yin, br_f (by rw [ct, hmkt]; decide) ⟨Yin, ?_⟩⟩)⟩
                rw [ct, hmkt, hte]
                refine br_t rfl ⟨pk_in t 13 (by omega), nm_e ⟨pk_in (d + 1) 13 (by omega), ?_⟩⟩
                rw [cd_cl (n := d + 1) (by omega)]
                exact nm_e ⟨pk_in (d + 1) 13 (by omega), nm_e (nm_r (nI_1 _) hn)⟩))
              obtain ⟨n, hn⟩ := I2
              rw [hm0] at hmt
              refine ⟨n + 1, XT n (fun z => absurd z hxne) (fun _ => cd_xlne hnb hb (hfe (w d) hb) hxlt hne (fun e => absurd (hte.symm.trans e) (cd_nm1 (by omega))) (fun t' h1 h2 h3 => ?_) (fun t' h1 h2 h3 => ?_) (Or.inr ⟨t, ht, hte⟩))⟩
              · rw [same t' h1 h2, hmt] at h3
                exact absurd h3 (by decide)
              · rw [same t' h1 h2, cd_upd_id hib0.symm]
                refine br_f (cd_nm1 (by omega)) ⟨pk_in t 12 (by omega), ?_⟩
                rw [cd_cl (n := t) (by omega), hmt]
                refine br_t rfl ⟨pk_in t 12 (by omega), nm_e ⟨pk_in (d + 1) 12 (by omega), ?_⟩⟩
                rw [cd_cl (n := d + 1) (by omega)]
                exact nm_e (nm_r (nI_1 _) (nm_r (nI_1 s) hn))
            · -- a block that was left
              have hmt2 : m t = 2 := by omega
              obtain ⟨hI', hre⟩ := cd_XI_look (v := 0) hnb hI hxlt (Or.inr ⟨t, ht, hte, hm0, fun _ => hmt2⟩) (fun _ => rfl)
              have I2 := ih (d + 1) c (s + 1) w m (cd_fu x (w d) (x (w d) + 1)) rk G (upd ib (cd_fs x_builtKinds (w d) + x (w d)) 0) pf pb met (upd nx (w d) (nI (x (w d) + 1))) way post hI' hw (fun b hb2 => ⟨(hl b hb2).1, nxl b hb2⟩) (by omega) (by omega) (fun c' w' m' x' rk' G' ib' pf' pb' met' nx' way' hF hY => hp c' w' m' x' rk' G' ib' pf' pb' met' nx' way' hF (fun mk tr st hst hmk postY hpY => by
                obtain ⟨n, hn⟩ := hY mk (upd tr d (nI (x (w d) + 1))) st (trl tr st hst) hmk postY hpY
                rw [cd_upd_id hib0.symm] at hn
                have hmkt := hmk t ht
                rw [hmt2] at hmkt
                refine ⟨n + 1, YT mk tr st postY n hst (fun z => absurd z hxne) (fun _ => br_t Yge ⟨Yin, br_f (by rw [ct, hmkt]; decide) ⟨Yin, ?_⟩⟩)⟩
                rw [ct, hmkt]
                exact br_f (by decide) hn))
              obtain ⟨n, hn⟩ := I2
              rw [hmt2] at hmt
              refine ⟨n + 1, XT n (fun z => absurd z hxne) (fun _ => cd_xlne hnb hb (hfe (w d) hb) hxlt hne (fun e => absurd (hte.symm.trans e) (cd_nm1 (by omega))) (fun t' h1 h2 h3 => ?_) (fun t' h1 h2 h3 => ?_) (Or.inr ⟨t, ht, hte⟩))⟩
              · rw [same t' h1 h2, hmt] at h3
                exact absurd h3 (by decide)
              · rw [same t' h1 h2]
                refine br_f (cd_nm1 (by omega)) ⟨pk_in t 12 (by omega), ?_⟩
                rw [cd_cl (n := t) (by omega), hmt]
                exact br_f (by decide) (nm_r (nI_1 s) hn)
end
