theorem cd_in01 {post : Int32 → Prop} {x : Int32} {a n : Nat} {y : Int32} (hy : y = nI n - 1) (hn : n < 1000000) (h0 : x < 0 → post 0) (h1 : ∀ j, j < n → x = nI j → post 1) (h2 : ∀ j, n ≤ j → j < 2147483648 → x = nI j → post 0) : wpY_in post x 0 y := by
  unfold wpY_in
  refine br_c h0 (fun h => ?_)
  obtain ⟨j, hj, rfl⟩ := nI_of h
  have hj' : j < 2147483648 := by omega
  subst hy
  by_cases hz : n = 0
  · subst hz
    refine br_t ?_ (h2 j (by omega) hj' rfl)
    rw [Int32.lt_iff_toInt_lt, nI_toInt hj]
    have : (nI 0 - 1).toInt = -1 := by decide
    rw [this]; omega
  · obtain ⟨m, rfl⟩ : ∃ m, n = m + 1 := ⟨n - 1, by omega⟩
    rw [nI_pred]
    exact pk_lt m j (fun h => h2 j (by omega) hj' rfl) (fun h => h1 j (by omega) rfl)
theorem i_vc_clear {k : Nat} {u : SX} {v : SY} (I : i_Rel k u v) (hk : k + 6 ≤ 3072) : wpX_clear (fun r u' => wpY_clear (fun r' v' => r' = r ∧ i_Rel (k + 6) u' v') v) u := by
  obtain ⟨x_blocks, x_builtBlocks, x_edges, x_paths, x_runX, x_runY, x_runDone, x_ops, x_operands, x_kinds, x_targets, x_builtOps, x_builtOperands, x_builtKinds, x_firstEdge, x_edgeFrom, x_edgeExit, x_edgeTo, x_edgeWeight, x_inTree, x_isBack, x_beginsPaths, x_firstPath, x_pathsFrom, x_pathsBefore, x_counts, x_dumped, x_dumpKept, x_looked, x_joined, x_met, x_nextExit, x_way⟩ := u
  obtain ⟨y_made, y_blocks, y_edges, y_paths, y_many, y_lastX, y_lastY, y_lastBlocks, y_op, y_number, y_kind, y_target, y_from, y_to, y_exit, y_weight, y_firstEdge, y_tree, y_back, y_row, y_length, y_gone, y_done, y_went, y_cut, y_kept, y_mark, y_way, y_tried, y_stack⟩ := v
  obtain ⟨n, nb, ne, np, rfl, rfl, rfl, rfl, rfl, rfl, rfl, rfl, rfl, rfl, rfl, rfl, rfl, rfl, rfl, rfl, rfl, rfl, hD, hB, hC, hK, hP⟩ := I
  exact ⟨rfl, cd_mk 0 nb ne np ⟨by omega, hD.2.1, fun i hi => absurd hi (by omega)⟩ hB hC hK hP⟩
theorem i_vc_last {k : Nat} {u : SX} {v : SY} (I : i_Rel k u v) (hk : k + 6 ≤ 3072) (v1 : Int32) : wpX_last (fun r => wpY_last (fun r' => r' = r ∧ i_Rel (k + 6) u v) v v1) u v1 := by
  have I' := i_up I
  obtain ⟨x_blocks, x_builtBlocks, x_edges, x_paths, x_runX, x_runY, x_runDone, x_ops, x_operands, x_kinds, x_targets, x_builtOps, x_builtOperands, x_builtKinds, x_firstEdge, x_edgeFrom, x_edgeExit, x_edgeTo, x_edgeWeight, x_inTree, x_isBack, x_beginsPaths, x_firstPath, x_pathsFrom, x_pathsBefore, x_counts, x_dumped, x_dumpKept, x_looked, x_joined, x_met, x_nextExit, x_way⟩ := u
  obtain ⟨y_made, y_blocks, y_edges, y_paths, y_many, y_lastX, y_lastY, y_lastBlocks, y_op, y_number, y_kind, y_target, y_from, y_to, y_exit, y_weight, y_firstEdge, y_tree, y_back, y_row, y_length, y_gone, y_done, y_went, y_cut, y_kept, y_mark, y_way, y_tried, y_stack⟩ := v
  obtain ⟨n, nb, ne, np, rfl, rfl, rfl, rfl, rfl, rfl, rfl, rfl, rfl, rfl, rfl, rfl, rfl, rfl, rfl, rfl, rfl, rfl, hD, hB, hC, hK, hP⟩ := I
  refine br_c (fun h => ?_) (fun h => br_c (fun h2 => ?_) (fun h2 => br_c (fun h0 => ?_) (fun h0 => br_c (fun h1 => ?_) (fun h1 => br_c (fun h3 => ?_) (fun h3 => trivial)))))
  · refine br_f ?_ (br_f ?_ (br_f ?_ ⟨rfl, I'⟩))
    · intro e; subst e; exact absurd h (by decide)
    · intro e; subst e; exact absurd h (by decide)
    · intro e; subst e; exact absurd h (by decide)
  · refine br_f ?_ (br_f ?_ (br_f ?_ ⟨rfl, I'⟩))
    · intro e; subst e; exact absurd h2 (by decide)
    · intro e; subst e; exact absurd h2 (by decide)
    · intro e; subst e; exact absurd h2 (by decide)
  · exact br_t h0 ⟨rfl, I'⟩
  · exact br_f h0 (br_t h1 ⟨rfl, I'⟩)
  · exact br_f h0 (br_f h1 (br_t h3 ⟨rfl, I'⟩))
theorem i_vc_block {k : Nat} {u : SX} {v : SY} (I : i_Rel k u v) (hk : k + 6 ≤ 3072) (v1 : Int32) (v2 : Int32) : wpX_block (fun r u' => wpY_block (fun r' v' => r' = r ∧ i_Rel (k + 6) u' v') v v1 v2) u v1 v2 := by
  have I' := i_up I
  obtain ⟨x_blocks, x_builtBlocks, x_edges, x_paths, x_runX, x_runY, x_runDone, x_ops, x_operands, x_kinds, x_targets, x_builtOps, x_builtOperands, x_builtKinds, x_firstEdge, x_edgeFrom, x_edgeExit, x_edgeTo, x_edgeWeight, x_inTree, x_isBack, x_beginsPaths, x_firstPath, x_pathsFrom, x_pathsBefore, x_counts, x_dumped, x_dumpKept, x_looked, x_joined, x_met, x_nextExit, x_way⟩ := u
  obtain ⟨y_made, y_blocks, y_edges, y_paths, y_many, y_lastX, y_lastY, y_lastBlocks, y_op, y_number, y_kind, y_target, y_from, y_to, y_exit, y_weight, y_firstEdge, y_tree, y_back, y_row, y_length, y_gone, y_done, y_went, y_cut, y_kept, y_mark, y_way, y_tried, y_stack⟩ := v
  obtain ⟨n, nb, ne, np, rfl, rfl, rfl, rfl, rfl, rfl, rfl, rfl, rfl, rfl, rfl, rfl, rfl, rfl, rfl, rfl, rfl, rfl, hD, hB, hC, hK, hP⟩ := I
  have hn : n ≤ 12 := hD.1
  unfold wpX_block wpY_block
  dsimp only
  refine br_c (fun h => ?_) (fun h => ?_)
  · exact br_t h (br_t rfl ⟨rfl, I'⟩)
  · refine br_c (fun h8 => ?_) (fun h8 => ?_)
    · have : (7 : Int32) < v1 := by
        rw [Int32.lt_iff_toInt_lt]; rw [Int32.le_iff_toInt_le] at h8
        have e1 : (7 : Int32).toInt = 7 := by decide
        have e2 : (8 : Int32).toInt = 8 := by decide
        omega
      exact br_f h (br_t this (br_t rfl ⟨rfl, I'⟩))
    · have : ¬ (7 : Int32) < v1 := by
        rw [Int32.lt_iff_toInt_lt]; rw [Int32.le_iff_toInt_le] at h8
        have e1 : (7 : Int32).toInt = 7 := by decide
        have e2 : (8 : Int32).toInt = 8 := by decide
        omega
      refine pk_lt n 12 (fun hl => ?_) (fun hl => ?_)
      · have c1 := cd_cl (n := n) (by omega)
        have c2 : nI n * 3 = nI (3 * n) := by rw [show (3 : Int32) = nI 3 from rfl, pk_mul, Nat.mul_comm]
        refine ⟨pk_in n 12 hl, nm_r (congrArg (fun q => upd x_ops q v1) c1) ⟨pk_in n 12 hl, nm_r (congrArg (fun q => upd x_operands q v2) c1) ⟨pk_in n 12 hl, nm_r (congrArg (fun q => upd x_kinds q 0) c1) ⟨pk_in (3 * n) 36 (by omega) c2, nm_r (congrArg (fun q => upd x_targets q (-1)) (pk_cl (3 * n) c2)) (nm_r (nI_1 n) ?_)⟩⟩⟩⟩
        refine br_f h (br_f this (br_f (by decide) (pk_eq n 12 (fun e => absurd e (by omega)) (fun _ => ?_))))
        refine ⟨pk_in n 24 (by omega), nm_r (congrArg (fun q => upd y_op q v1) c1) ⟨pk_in n 24 (by omega), nm_r (congrArg (fun q => upd y_number q v2) c1) ⟨pk_in n 24 (by omega), nm_r (congrArg (fun q => upd y_kind q 0) c1) (nm_r (nI_1 n) ⟨nI_pred n, ?_⟩)⟩⟩⟩
        refine cd_mk (n + 1) nb ne np ?_ ?_ hC hK hP
        · refine ⟨by omega, fun i hi => ?_, fun i hi => ?_⟩
          · obtain ⟨a1, a2, a3, a4, a5⟩ := hD.2.1 i hi
            refine ⟨?_, ?_, ?_, ?_, ?_⟩
            · unfold upd; split
              · rfl
              · exact a1
            · unfold upd; split
              · rfl
              · exact a2
            · unfold upd; split
              · rfl
              · exact a3
            · rw [pk_un (by omega)]; exact a4
            · rw [pk_un (by omega)]; exact a5
          · by_cases e : i = n
            · subst e
              refine ⟨⟨0, by omega, pk_us⟩, fun _ => pk_us, fun z => absurd pk_us z⟩
            · obtain ⟨b1, b2, b3⟩ := hD.2.2 i (by omega)
              rw [pk_un e, pk_un (show 3 * i ≠ 3 * n by omega)]
              refine ⟨b1, b2, fun z => ⟨(b3 z).1, fun k hk => ?_⟩⟩
              have := cd_ec_r (x_kinds i)
              rw [pk_un (by omega)]
              exact (b3 z).2 k hk
        · obtain ⟨a1, a2, a3, a4⟩ := hB
          refine ⟨a1, a2, fun b hb => ?_, a4⟩
          rw [pk_un (by omega), pk_un (by omega), pk_un (by omega)]
          exact a3 b hb
      · have e : n = 12 := by omega
        subst e
        exact br_f h (br_f this (br_f (by decide) (br_t rfl ⟨rfl, I'⟩)))
theorem i_vc_count {k : Nat} {u : SX} {v : SY} (I : i_Rel k u v) (hk : k + 6 ≤ 3072) (v1 : Int32) : wpX_count (fun r => wpY_count (fun r' => r' = r ∧ i_Rel (k + 6) u v) v v1) u v1 := by
  have I' := i_up I
  obtain ⟨x_blocks, x_builtBlocks, x_edges, x_paths, x_runX, x_runY, x_runDone, x_ops, x_operands, x_kinds, x_targets, x_builtOps, x_builtOperands, x_builtKinds, x_firstEdge, x_edgeFrom, x_edgeExit, x_edgeTo, x_edgeWeight, x_inTree, x_isBack, x_beginsPaths, x_firstPath, x_pathsFrom, x_pathsBefore, x_counts, x_dumped, x_dumpKept, x_looked, x_joined, x_met, x_nextExit, x_way⟩ := u
  obtain ⟨y_made, y_blocks, y_edges, y_paths, y_many, y_lastX, y_lastY, y_lastBlocks, y_op, y_number, y_kind, y_target, y_from, y_to, y_exit, y_weight, y_firstEdge, y_tree, y_back, y_row, y_length, y_gone, y_done, y_went, y_cut, y_kept, y_mark, y_way, y_tried, y_stack⟩ := v
  obtain ⟨n, nb, ne, np, rfl, rfl, rfl, rfl, rfl, rfl, rfl, rfl, rfl, rfl, rfl, rfl, rfl, rfl, rfl, rfl, rfl, rfl, hD, hB, hC, hK, hP⟩ := I
  have hne := cd_ne hB
  unfold wpX_count wpX_isEdge wpY_count
  dsimp only
  refine br_c (fun h => ?_) (fun h => ?_)
  · refine br_t rfl (cd_in01 (a := 0) rfl (by omega) (fun _ => br_t rfl ⟨rfl, I'⟩) (fun j hj e => ?_) (fun _ _ _ _ => br_t rfl ⟨rfl, I'⟩))
    subst e; exact absurd h (nI_pos (by omega))
  · obtain ⟨j, hj, rfl⟩ := nI_of h
    refine pk_le ne j (fun h1 => ?_) (fun h1 => ?_)
    · refine br_t rfl (cd_in01 (a := 0) rfl (by omega) (fun _ => br_t rfl ⟨rfl, I'⟩) (fun i hi e => ?_) (fun _ _ _ _ => br_t rfl ⟨rfl, I'⟩))
      rw [nI_eq hj (by omega)] at e; omega
    · refine br_f (by decide) ⟨pk_in j 350 (by omega), cd_in01 (a := 0) rfl (by omega) (fun z => absurd z h) (fun i hi e => br_f (by decide) ⟨pk_in j 111 (by omega), ?_, I'⟩) (fun i hi hi2 e => ?_)⟩
      · rw [nI_clamp hj]; exact hC.1 j (by omega)
      · rw [nI_eq hj (by omega)] at e; omega
theorem i_vc_done {k : Nat} {u : SX} {v : SY} (I : i_Rel k u v) (hk : k + 6 ≤ 3072) (v1 : Int32) : wpX_done (fun r => wpY_done (fun r' => r' = r ∧ i_Rel (k + 6) u v) v v1) u v1 := by
  have I' := i_up I
  obtain ⟨x_blocks, x_builtBlocks, x_edges, x_paths, x_runX, x_runY, x_runDone, x_ops, x_operands, x_kinds, x_targets, x_builtOps, x_builtOperands, x_builtKinds, x_firstEdge, x_edgeFrom, x_edgeExit, x_edgeTo, x_edgeWeight, x_inTree, x_isBack, x_beginsPaths, x_firstPath, x_pathsFrom, x_pathsBefore, x_counts, x_dumped, x_dumpKept, x_looked, x_joined, x_met, x_nextExit, x_way⟩ := u
  obtain ⟨y_made, y_blocks, y_edges, y_paths, y_many, y_lastX, y_lastY, y_lastBlocks, y_op, y_number, y_kind, y_target, y_from, y_to, y_exit, y_weight, y_firstEdge, y_tree, y_back, y_row, y_length, y_gone, y_done, y_went, y_cut, y_kept, y_mark, y_way, y_tried, y_stack⟩ := v
  obtain ⟨n, nb, ne, np, rfl, rfl, rfl, rfl, rfl, rfl, rfl, rfl, rfl, rfl, rfl, rfl, rfl, rfl, rfl, rfl, rfl, rfl, hD, hB, hC, hK, hP⟩ := I
  have hne := cd_ne hB
  unfold wpX_done wpY_done
  dsimp only
  refine br_c (fun h => ?_) (fun h => ?_)
  · refine pk_le ne 0 (fun _ => ⟨rfl, I'⟩) (fun _ => ?_)
    refine cd_in01 (a := 0) rfl (by omega) (fun _ => br_t rfl ⟨rfl, I'⟩) (fun j hj e => ?_) (fun _ _ _ _ => br_t rfl ⟨rfl, I'⟩)
    subst e; exact absurd h (nI_pos (by omega))
  · obtain ⟨j, hj, rfl⟩ := nI_of h
    refine pk_lt j nb (fun h1 => ?_) (fun h1 => ?_)
    · have c : (37 : Int32) + nI j = nI (37 + j) := nI_add 37 j
      refine ⟨pk_in (37 + j) 350 (by omega) c, pk_le ne 0 (fun z => absurd z (by omega)) (fun _ => cd_in01 (a := 0) rfl (by omega) (fun z => absurd z h) (fun i hi e => br_f (by decide) ⟨pk_in j 36 (by omega), ?_, I'⟩) (fun i hi hi2 e => ?_))⟩
      · rw [c, nI_clamp hj, cd_cl (by omega)]; exact hC.2.1 j (by omega)
      · rw [nI_eq hj (by omega)] at e; omega
    · refine pk_le ne 0 (fun _ => ⟨rfl, I'⟩) (fun _ => ?_)
      refine cd_in01 (a := 0) rfl (by omega) (fun _ => br_t rfl ⟨rfl, I'⟩) (fun i hi e => ?_) (fun _ _ _ _ => br_t rfl ⟨rfl, I'⟩)
      rw [nI_eq hj (by omega)] at e; omega
