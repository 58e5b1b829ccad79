theorem cd_may {post : Int32 → Prop} {x : Int32} (h0 : (∀ t : Nat, t < 12 → ¬ x = nI t) → post 0) (h1 : ∀ t : Nat, t < 12 → x = nI t → post 1) : wpX_mayBeTarget post x := by
  unfold wpX_mayBeTarget
  refine br_c (fun h => ?_) (fun h => ?_)
  · refine h0 (fun t ht e => ?_)
    subst e; exact absurd h (nI_pos (by omega))
  · obtain ⟨j, hj, rfl⟩ := nI_of h
    refine pk_le 12 j (fun h1 => ?_) (fun h2 => h1 j (by omega) rfl)
    refine h0 (fun t ht e => ?_)
    rw [nI_eq hj (by omega)] at e; omega
theorem cd_yin {post : Int32 → Prop} {x : Int32} {y : Int32} {n : Nat} (hy : y = nI n - 1) (hn : n < 1000000) (h0 : (∀ t : Nat, t < n → ¬ x = nI t) → post 0) (h1 : ∀ t : Nat, t < n → x = nI t → post 1) : wpY_in post x 0 y := by
  refine cd_in01 (a := 0) hy hn (fun h => h0 (fun t ht e => ?_)) h1 (fun j hj hj2 e => h0 (fun t ht e2 => ?_))
  · subst e; exact absurd h (nI_pos (by omega))
  · rw [e, nI_eq (by omega) (by omega)] at e2; omega
section
variable {x_blocks x_builtBlocks x_edges x_paths x_runX x_runY x_runDone : Int32} {x_ops x_operands x_kinds x_targets x_builtOps x_builtOperands x_builtKinds x_firstEdge x_edgeFrom x_edgeExit x_edgeTo x_edgeWeight x_inTree x_isBack x_beginsPaths x_firstPath x_pathsFrom x_pathsBefore x_counts x_dumped x_dumpKept x_looked x_joined x_met x_nextExit x_way : Nat → Int32} {y_made y_blocks y_edges y_paths y_many y_lastX y_lastY y_lastBlocks : Int32} {y_op y_number y_kind y_target y_from y_to y_exit y_weight y_firstEdge y_tree y_back y_row y_length y_gone y_done y_went y_cut y_kept y_mark y_way y_tried y_stack : Nat → Int32}
/-- X's exits from the point where the number of targets is known -/
theorem cd_xex {post : Int32 → SX → Prop} {b used kd : Nat} {kk first second third : Int32} (hb : b < 12) (hu : used ≤ 3) (hk : kk = nI kd) (hkd : kd < 6)
    (h0 : ¬ ((0 < used → ∃ t : Nat, t < 12 ∧ first = nI t) ∧ (1 < used → ∃ t : Nat, t < 12 ∧ second = nI t) ∧ (2 < used → ∃ t : Nat, t < 12 ∧ third = nI t)) → post 0 (x_blocks, x_builtBlocks, x_edges, x_paths, x_runX, x_runY, x_runDone, x_ops, x_operands, x_kinds, x_targets, x_builtOps, x_builtOperands, x_builtKinds, x_firstEdge, x_edgeFrom, x_edgeExit, x_edgeTo, x_edgeWeight, x_inTree, x_isBack, x_beginsPaths, x_firstPath, x_pathsFrom, x_pathsBefore, x_counts, x_dumped, x_dumpKept, x_looked, x_joined, x_met, x_nextExit, x_way))
    (h1 : (0 < used → ∃ t : Nat, t < 12 ∧ first = nI t) → (1 < used → ∃ t : Nat, t < 12 ∧ second = nI t) → (2 < used → ∃ t : Nat, t < 12 ∧ third = nI t) → post 1 (x_blocks, x_builtBlocks, x_edges, x_paths, x_runX, x_runY, x_runDone, x_ops, x_operands, (upd x_kinds b kk), (upd (upd (upd x_targets (3 * b) (if kk = 0 then -1 else first)) (3 * b + 1) second) (3 * b + 2) third), x_builtOps, x_builtOperands, x_builtKinds, x_firstEdge, x_edgeFrom, x_edgeExit, x_edgeTo, x_edgeWeight, x_inTree, x_isBack, x_beginsPaths, x_firstPath, x_pathsFrom, x_pathsBefore, x_counts, x_dumped, x_dumpKept, x_looked, x_joined, x_met, x_nextExit, x_way)) :
    wX_exits_35 post (nI b) kk first second third (nI used) x_blocks x_builtBlocks x_edges x_paths x_runX x_runY x_runDone x_ops x_operands x_kinds x_targets x_builtOps x_builtOperands x_builtKinds x_firstEdge x_edgeFrom x_edgeExit x_edgeTo x_edgeWeight x_inTree x_isBack x_beginsPaths x_firstPath x_pathsFrom x_pathsBefore x_counts x_dumped x_dumpKept x_looked x_joined x_met x_nextExit x_way := by
  have c0 : nI b * 3 = nI (3 * b) := by rw [show (3 : Int32) = nI 3 from rfl, pk_mul, Nat.mul_comm]
  have c1 : nI (3 * b) + 1 = nI (3 * b + 1) := nI_1 _
  have c2 : nI (3 * b) + 2 = nI (3 * b + 2) := nI_add _ 2
  have H82 : (¬ ((0 < used → ∃ t : Nat, t < 12 ∧ first = nI t) ∧ (1 < used → ∃ t : Nat, t < 12 ∧ second = nI t) ∧ (2 < used → ∃ t : Nat, t < 12 ∧ third = nI t))) → wX_exits_82 post (nI b) kk first second third x_blocks x_builtBlocks x_edges x_paths x_runX x_runY x_runDone x_ops x_operands x_kinds x_targets x_builtOps x_builtOperands x_builtKinds x_firstEdge x_edgeFrom x_edgeExit x_edgeTo x_edgeWeight x_inTree x_isBack x_beginsPaths x_firstPath x_pathsFrom x_pathsBefore x_counts x_dumped x_dumpKept x_looked x_joined x_met x_nextExit x_way := fun h => br_t rfl (h0 h)
  have H119 : ∀ z : Int32, (0 < used → ∃ t : Nat, t < 12 ∧ first = nI t) → (1 < used → ∃ t : Nat, t < 12 ∧ second = nI t) → (2 < used → ∃ t : Nat, t < 12 ∧ third = nI t) → z = (if kk = 0 then -1 else first) → wX_exits_119 post second third (nI (3 * b)) z (nI (3 * b)) x_blocks x_builtBlocks x_edges x_paths x_runX x_runY x_runDone x_ops x_operands (upd x_kinds b kk) x_targets x_builtOps x_builtOperands x_builtKinds x_firstEdge x_edgeFrom x_edgeExit x_edgeTo x_edgeWeight x_inTree x_isBack x_beginsPaths x_firstPath x_pathsFrom x_pathsBefore x_counts x_dumped x_dumpKept x_looked x_joined x_met x_nextExit x_way := by
    intro z a1 a2 a3 hz
    subst hz
    exact ⟨pk_in (3 * b) 36 (by omega), nm_r (congrArg (fun q => upd x_targets q _) (cd_cl (by omega))) ⟨pk_in (3 * b + 1) 36 (by omega) c1, nm_r (congrArg (fun q => upd _ q _) (pk_cl (3 * b + 1) c1)) ⟨pk_in (3 * b + 2) 36 (by omega) c2, nm_r (congrArg (fun q => upd _ q _) (pk_cl (3 * b + 2) c2)) (h1 a1 a2 a3)⟩⟩⟩
  have H78 : (0 < used → ∃ t : Nat, t < 12 ∧ first = nI t) → (1 < used → ∃ t : Nat, t < 12 ∧ second = nI t) → (2 < used → ∃ t : Nat, t < 12 ∧ third = nI t) → wX_exits_78 post (nI b) kk first second third x_blocks x_builtBlocks x_edges x_paths x_runX x_runY x_runDone x_ops x_operands x_kinds x_targets x_builtOps x_builtOperands x_builtKinds x_firstEdge x_edgeFrom x_edgeExit x_edgeTo x_edgeWeight x_inTree x_isBack x_beginsPaths x_firstPath x_pathsFrom x_pathsBefore x_counts x_dumped x_dumpKept x_looked x_joined x_met x_nextExit x_way := by
    intro a1 a2 a3
    refine br_f (by decide) (nm_r c0 ⟨pk_in b 12 hb, nm_r (congrArg (fun q => upd x_kinds q kk) (cd_cl (by omega))) (br_c (fun hz => ?_) (fun hz => ?_))⟩)
    · exact H119 _ a1 a2 a3 (by rw [if_pos hz])
    · exact H119 _ a1 a2 a3 (by rw [if_neg hz])
  refine pk_lt used 1 (fun u1 => ?_) (fun u1 => ?_)
  · refine pk_lt used 2 (fun u2 => ?_) (fun u2 => absurd u2 (by omega))
    refine pk_lt used 3 (fun u3 => ?_) (fun u3 => absurd u3 (by omega))
    exact H78 (fun h => absurd h (by omega)) (fun h => absurd h (by omega)) (fun h => absurd h (by omega))
  · refine cd_may (fun hn => br_t rfl (H82 (fun hc => ?_))) (fun t1 ht1 e1 => br_f (by decide) ?_)
    · obtain ⟨t, ht, e⟩ := hc.1 (by omega)
      exact hn t ht e
    refine pk_lt used 2 (fun u2 => ?_) (fun u2 => ?_)
    · refine pk_lt used 3 (fun u3 => ?_) (fun u3 => absurd u3 (by omega))
      exact H78 (fun _ => ⟨t1, ht1, e1⟩) (fun h => absurd h (by omega)) (fun h => absurd h (by omega))
    · refine cd_may (fun hn => br_t rfl (H82 (fun hc => ?_))) (fun t2 ht2 e2 => br_f (by decide) ?_)
      · obtain ⟨t, ht, e⟩ := hc.2.1 (by omega)
        exact hn t ht e
      refine pk_lt used 3 (fun u3 => ?_) (fun u3 => ?_)
      · exact H78 (fun _ => ⟨t1, ht1, e1⟩) (fun _ => ⟨t2, ht2, e2⟩) (fun h => absurd h (by omega))
      · refine cd_may (fun hn => br_t rfl (H82 (fun hc => ?_))) (fun t3 ht3 e3 => br_f (by decide) ?_)
        · obtain ⟨t, ht, e⟩ := hc.2.2 (by omega)
          exact hn t ht e
        exact H78 (fun _ => ⟨t1, ht1, e1⟩) (fun _ => ⟨t2, ht2, e2⟩) (fun _ => ⟨t3, ht3, e3⟩)
theorem cd_yex {post : Int32 → SY → Prop} {b used : Nat} {kk first second third : Int32} (hb : b < 12) (hu : used ≤ 3)
    (h0 : ¬ ((0 < used → ∃ t : Nat, t < 12 ∧ first = nI t) ∧ (1 < used → ∃ t : Nat, t < 12 ∧ second = nI t) ∧ (2 < used → ∃ t : Nat, t < 12 ∧ third = nI t)) → post 0 (y_made, y_blocks, y_edges, y_paths, y_many, y_lastX, y_lastY, y_lastBlocks, y_op, y_number, y_kind, y_target, y_from, y_to, y_exit, y_weight, y_firstEdge, y_tree, y_back, y_row, y_length, y_gone, y_done, y_went, y_cut, y_kept, y_mark, y_way, y_tried, y_stack))
    (h1 : (0 < used → ∃ t : Nat, t < 12 ∧ first = nI t) → (1 < used → ∃ t : Nat, t < 12 ∧ second = nI t) → (2 < used → ∃ t : Nat, t < 12 ∧ third = nI t) → post 1 (y_made, y_blocks, y_edges, y_paths, y_many, y_lastX, y_lastY, y_lastBlocks, y_op, y_number, (upd y_kind b kk), (upd (upd (upd y_target (3 * b) first) (3 * b + 1) second) (3 * b + 2) third), y_from, y_to, y_exit, y_weight, y_firstEdge, y_tree, y_back, y_row, y_length, y_gone, y_done, y_went, y_cut, y_kept, y_mark, y_way, y_tried, y_stack)) :
    wY_exits_37 post (nI b) kk first second third (nI used) y_made y_blocks y_edges y_paths y_many y_lastX y_lastY y_lastBlocks y_op y_number y_kind y_target y_from y_to y_exit y_weight y_firstEdge y_tree y_back y_row y_length y_gone y_done y_went y_cut y_kept y_mark y_way y_tried y_stack := by
  have c0 : 3 * nI b = nI (3 * b) := by rw [show (3 : Int32) = nI 3 from rfl, pk_mul]
  have c1 : 3 * nI b + 1 = nI (3 * b + 1) := by rw [c0]; exact nI_1 _
  have c2 : 3 * nI b + 2 = nI (3 * b + 2) := by rw [c0]; exact nI_add _ 2
  have H90 : (0 < used → ∃ t : Nat, t < 12 ∧ first = nI t) → (1 < used → ∃ t : Nat, t < 12 ∧ second = nI t) → (2 < used → ∃ t : Nat, t < 12 ∧ third = nI t) → wY_exits_90 post (nI b) kk first second third y_made y_blocks y_edges y_paths y_many y_lastX y_lastY y_lastBlocks y_op y_number y_kind y_target y_from y_to y_exit y_weight y_firstEdge y_tree y_back y_row y_length y_gone y_done y_went y_cut y_kept y_mark y_way y_tried y_stack := by
    intro a1 a2 a3
    exact ⟨pk_in b 24 (by omega), nm_r (congrArg (fun q => upd y_kind q kk) (cd_cl (by omega))) ⟨pk_in (3 * b) 72 (by omega) c0, nm_r (congrArg (fun q => upd y_target q _) (pk_cl (3 * b) c0)) ⟨pk_in (3 * b + 1) 72 (by omega) c1, nm_r (congrArg (fun q => upd _ q _) (pk_cl (3 * b + 1) c1)) ⟨pk_in (3 * b + 2) 72 (by omega) c2, nm_r (congrArg (fun q => upd _ q _) (pk_cl (3 * b + 2) c2)) (h1 a1 a2 a3)⟩⟩⟩⟩
  refine pk_le used 0 (fun u1 => ?_) (fun u1 => ?_)
  · refine pk_le used 1 (fun u2 => ?_) (fun u2 => absurd u2 (by omega))
    refine pk_le used 2 (fun u3 => ?_) (fun u3 => absurd u3 (by omega))
    exact H90 (fun h => absurd h (by omega)) (fun h => absurd h (by omega)) (fun h => absurd h (by omega))
  · refine cd_yin (n := 12) rfl (by omega) (fun hn => br_t rfl (h0 (fun hc => ?_))) (fun t1 ht1 e1 => br_f (by decide) ?_)
    · obtain ⟨t, ht, e⟩ := hc.1 (by omega)
      exact hn t ht e
    refine pk_le used 1 (fun u2 => ?_) (fun u2 => ?_)
    · refine pk_le used 2 (fun u3 => ?_) (fun u3 => absurd u3 (by omega))
      exact H90 (fun _ => ⟨t1, ht1, e1⟩) (fun h => absurd h (by omega)) (fun h => absurd h (by omega))
    · refine cd_yin (n := 12) rfl (by omega) (fun hn => br_t rfl (h0 (fun hc => ?_))) (fun t2 ht2 e2 => br_f (by decide) ?_)
      · obtain ⟨t, ht, e⟩ := hc.2.1 (by omega)
        exact hn t ht e
      refine pk_le used 2 (fun u3 => ?_) (fun u3 => ?_)
      · exact H90 (fun _ => ⟨t1, ht1, e1⟩) (fun _ => ⟨t2, ht2, e2⟩) (fun h => absurd h (by omega))
      · refine cd_yin (n := 12) rfl (by omega) (fun hn => br_t rfl (h0 (fun hc => ?_))) (fun t3 ht3 e3 => br_f (by decide) ?_)
        · obtain ⟨t, ht, e⟩ := hc.2.2 (by omega)
          exact hn t ht e
        exact H90 (fun _ => ⟨t1, ht1, e1⟩) (fun _ => ⟨t2, ht2, e2⟩) (fun _ => ⟨t3, ht3, e3⟩)
end
theorem cd_Dex {n b used kd : Nat} {ops operands kinds targets op number kind target : Nat → Int32} {kk first second third : Int32} (hD : cd_D n ops operands kinds targets op number kind target) (hb : b < n) (hk : kk = nI kd) (hkd : kd < 6) (hu : kk = 0 ∨ used = cd_ec kk)
    (h1 : 0 < used → ∃ t : Nat, t < 12 ∧ first = nI t) (h2 : 1 < used → ∃ t : Nat, t < 12 ∧ second = nI t) (h3 : 2 < used → ∃ t : Nat, t < 12 ∧ third = nI t) :
    cd_D n ops operands (upd kinds b kk) (upd (upd (upd targets (3 * b) (if kk = 0 then -1 else first)) (3 * b + 1) second) (3 * b + 2) third) op number (upd kind b kk) (upd (upd (upd target (3 * b) first) (3 * b + 1) second) (3 * b + 2) third) := by
  obtain ⟨d1, d2, d3⟩ := hD
  have A : ∀ {a : Nat → Int32} {z : Int32} {i : Nat}, upd (upd (upd a (3 * b) z) (3 * b + 1) second) (3 * b + 2) third i = if i = 3 * b + 2 then third else if i = 3 * b + 1 then second else if i = 3 * b then z else a i := fun {a z i} => rfl
  refine ⟨d1, fun i hi => ?_, fun i hi => ?_⟩
  · obtain ⟨a1, a2, a3, a4, a5⟩ := d2 i hi
    refine ⟨a1, a2, ?_, ?_, ?_⟩
    · unfold upd; split
      · rfl
      · exact a3
    · rw [A, A]
      by_cases e : i = b
      · subst e; rw [if_neg (by omega), if_pos rfl, if_neg (by omega), if_pos rfl]
      · rw [if_neg (by omega), if_neg (by omega), if_neg (by omega), if_neg (by omega), if_neg (by omega), if_neg (by omega)]; exact a4
    · rw [A, A]
      by_cases e : i = b
      · subst e; rw [if_pos rfl, if_pos rfl]
      · rw [if_neg (by omega), if_neg (by omega), if_neg (by omega), if_neg (by omega), if_neg (by omega), if_neg (by omega)]; exact a5
  · by_cases e : i = b
    · subst e
      rw [pk_us]
      refine ⟨⟨kd, hkd, hk⟩, fun z => ?_, fun z => ⟨?_, fun k hk2 => ?_⟩⟩
      · rw [A, if_neg (by omega), if_neg (by omega), if_pos rfl, if_pos z]
      · rw [A, A, if_neg (by omega), if_neg (by omega), if_pos rfl, if_neg (by omega), if_neg (by omega), if_pos rfl, if_neg z]
      · have := cd_ec_r kk
        have hu' : used = cd_ec kk := hu.resolve_left z
        rw [A]
        by_cases k2 : k = 2
        · subst k2; rw [if_pos rfl]; exact h3 (by omega)
        · by_cases k1 : k = 1
          · subst k1; rw [if_neg (by omega), if_pos rfl]; exact h2 (by omega)
          · rw [if_neg (by omega), if_neg (by omega), if_pos (by omega), if_neg z]; exact h1 (by omega)
    · obtain ⟨b1, b2, b3⟩ := d3 i hi
      rw [pk_un e]
      refine ⟨b1, fun z => ?_, fun z => ⟨?_, fun k hk2 => ?_⟩⟩
      · rw [A, if_neg (by omega), if_neg (by omega), if_neg (by omega)]; exact b2 z
      · rw [A, A, if_neg (by omega), if_neg (by omega), if_neg (by omega), if_neg (by omega), if_neg (by omega), if_neg (by omega)]; exact (b3 z).1
      · have := cd_ec_r (kinds i)
        rw [A, if_neg (by omega), if_neg (by omega), if_neg (by omega)]
        exact (b3 z).2 k hk2
theorem i_vc_exits {k : Nat} {u : SX} {v : SY} (I : i_Rel k u v) (hk : k + 6 ≤ 3072) (v1 : Int32) (v2 : Int32) (v3 : Int32) (v4 : Int32) (v5 : Int32) : wpX_exits (fun r u' => wpY_exits (fun r' v' => r' = r ∧ i_Rel (k + 6) u' v') v v1 v2 v3 v4 v5) u v1 v2 v3 v4 v5 := by
  have I' := i_up I
  obtain ⟨x_blocks, x_builtBlocks, x_edges, x_paths, x_runX, x_runY, x_runDone, x_ops, x_operands, x_kinds, x_targets, x_builtOps, x_builtOperands, x_builtKinds, x_firstEdge, x_edgeFrom, x_edgeExit, x_edgeTo, x_edgeWeight, x_inTree, x_isBack, x_beginsPaths, x_firstPath, x_pathsFrom, x_pathsBefore, x_counts, x_dumped, x_dumpKept, x_looked, x_joined, x_met, x_nextExit, x_way⟩ := u
  obtain ⟨y_made, y_blocks, y_edges, y_paths, y_many, y_lastX, y_lastY, y_lastBlocks, y_op, y_number, y_kind, y_target, y_from, y_to, y_exit, y_weight, y_firstEdge, y_tree, y_back, y_row, y_length, y_gone, y_done, y_went, y_cut, y_kept, y_mark, y_way, y_tried, y_stack⟩ := v
  obtain ⟨n, nb, ne, np, rfl, rfl, rfl, rfl, rfl, rfl, rfl, rfl, rfl, rfl, rfl, rfl, rfl, rfl, rfl, rfl, rfl, rfl, hD, hB, hC, hK, hP⟩ := I
  have hn : n ≤ 12 := hD.1
  unfold wpX_exits wpY_exits
  dsimp only
  have Hbad : (∀ t : Nat, t < n → ¬ v1 = nI t) → wpY_in (fun r_1 => ((r_1 = 0 → (0 : Int32) = 0 ∧ i_Rel (k + 6) ((nI n), (nI nb), (nI ne), (nI np), x_runX, x_runY, x_runDone, x_ops, x_operands, x_kinds, x_targets, x_builtOps, x_builtOperands, x_builtKinds, x_firstEdge, x_edgeFrom, x_edgeExit, x_edgeTo, x_edgeWeight, x_inTree, x_isBack, x_beginsPaths, x_firstPath, x_pathsFrom, x_pathsBefore, x_counts, x_dumped, x_dumpKept, x_looked, x_joined, x_met, x_nextExit, x_way) ((nI n), (nI nb), (nI ne), y_paths, y_many, x_runX, x_runY, x_runDone, y_op, y_number, y_kind, y_target, x_edgeFrom, x_edgeTo, x_edgeExit, x_edgeWeight, x_firstEdge, x_inTree, x_isBack, y_row, y_length, y_gone, y_done, y_went, y_cut, x_dumpKept, y_mark, y_way, y_tried, y_stack)) ∧ (¬ r_1 = 0 → False))) v1 0 (nI n - 1) := fun hb => cd_yin rfl (by omega) (fun _ => br_t rfl ⟨rfl, I'⟩) (fun t ht e => absurd e (hb t ht))
  have Y0 : ∀ {A : Prop}, (∀ t : Nat, t < n → ¬ v1 = nI t) → wpY_in (fun r_1 => ((r_1 = 0 → (0 : Int32) = 0 ∧ i_Rel (k + 6) ((nI n), (nI nb), (nI ne), (nI np), x_runX, x_runY, x_runDone, x_ops, x_operands, x_kinds, x_targets, x_builtOps, x_builtOperands, x_builtKinds, x_firstEdge, x_edgeFrom, x_edgeExit, x_edgeTo, x_edgeWeight, x_inTree, x_isBack, x_beginsPaths, x_firstPath, x_pathsFrom, x_pathsBefore, x_counts, x_dumped, x_dumpKept, x_looked, x_joined, x_met, x_nextExit, x_way) ((nI n), (nI nb), (nI ne), y_paths, y_many, x_runX, x_runY, x_runDone, y_op, y_number, y_kind, y_target, x_edgeFrom, x_edgeTo, x_edgeExit, x_edgeWeight, x_firstEdge, x_inTree, x_isBack, y_row, y_length, y_gone, y_done, y_went, y_cut, x_dumpKept, y_mark, y_way, y_tried, y_stack)) ∧ (¬ r_1 = 0 → A))) v1 0 (nI n - 1) := fun hb => cd_yin rfl (by omega) (fun _ => br_t rfl ⟨rfl, I'⟩) (fun t ht e => absurd e (hb t ht))
  refine br_c (fun h => ?_) (fun h => ?_)
  · refine Y0 (fun t ht e => ?_)
    subst e; exact absurd h (nI_pos (by omega))
  · obtain ⟨b, hb, rfl⟩ := nI_of h
    refine pk_le n b (fun h1 => ?_) (fun h1 => ?_)
    · refine Y0 (fun t ht e => ?_)
      rw [nI_eq hb (by omega)] at e; omega
    have hb12 : b < 12 := by omega
    have Y1 : ∀ {A : Prop} {P : Int32 → Prop}, P 1 → wpY_in (fun r_1 => ((r_1 = 0 → A) ∧ (¬ r_1 = 0 → P 1))) (nI b) 0 (nI n - 1) := fun hp => cd_yin rfl (by omega) (fun hc => absurd rfl (hc b (by omega))) (fun t ht e => br_f (by decide) hp)
    refine br_c (fun h2 => ?_) (fun h2 => ?_)
    · refine cd_yin rfl (by omega) (fun hc => absurd rfl (hc b (by omega))) (fun t ht e => br_f (by decide) ?_)
      refine cd_yin (n := 6) rfl (by omega) (fun hc => br_t rfl ⟨rfl, I'⟩) (fun t ht e => ?_)
      subst e; exact absurd h2 (nI_pos (by omega))
    obtain ⟨kd, hkd, rfl⟩ := nI_of h2
    refine pk_le kd 5 (fun h5 => ?_) (fun h5 => ?_)
    · have key : ∀ used : Nat, used ≤ 3 → (nI kd = 0 ∨ used = cd_ec (nI kd)) → (nI kd = 0 → used = 0) → wX_exits_35 (fun r u' => wpY_in (fun r_1 => (((r_1 = 0 → ((0 : Int32) = r ∧ i_Rel (k + 6) u' ((nI n), (nI nb), (nI ne), y_paths, y_many, x_runX, x_runY, x_runDone, y_op, y_number, y_kind, y_target, x_edgeFrom, x_edgeTo, x_edgeExit, x_edgeWeight, x_firstEdge, x_inTree, x_isBack, y_row, y_length, y_gone, y_done, y_went, y_cut, x_dumpKept, y_mark, y_way, y_tried, y_stack))) ∧ (¬ r_1 = 0 → (wpY_in (fun r_3 => (((r_3 = 0 → ((0 : Int32) = r ∧ i_Rel (k + 6) u' ((nI n), (nI nb), (nI ne), y_paths, y_many, x_runX, x_runY, x_runDone, y_op, y_number, y_kind, y_target, x_edgeFrom, x_edgeTo, x_edgeExit, x_edgeWeight, x_firstEdge, x_inTree, x_isBack, y_row, y_length, y_gone, y_done, y_went, y_cut, x_dumpKept, y_mark, y_way, y_tried, y_stack))) ∧ (¬ r_3 = 0 → (((nI kd = 0 → (wY_exits_37 (fun r' v' => r' = r ∧ i_Rel (k + 6) u' v') (nI b) (nI kd) v3 v4 v5 0 (nI n) (nI nb) (nI ne) y_paths y_many x_runX x_runY x_runDone y_op y_number y_kind y_target x_edgeFrom x_edgeTo x_edgeExit x_edgeWeight x_firstEdge x_inTree x_isBack y_row y_length y_gone y_done y_went y_cut x_dumpKept y_mark y_way y_tried y_stack)) ∧ (¬ nI kd = 0 → (wpY_exitsOf (fun r_6 => (wY_exits_37 (fun r' v' => r' = r ∧ i_Rel (k + 6) u' v') (nI b) (nI kd) v3 v4 v5 r_6 (nI n) (nI nb) (nI ne) y_paths y_many x_runX x_runY x_runDone y_op y_number y_kind y_target x_edgeFrom x_edgeTo x_edgeExit x_edgeWeight x_firstEdge x_inTree x_isBack y_row y_length y_gone y_done y_went y_cut x_dumpKept y_mark y_way y_tried y_stack)) (nI kd))))))) )) (nI kd) 0 5))))) (nI b) 0 (nI n - 1)) (nI b) (nI kd) v3 v4 v5 (nI used) (nI n) (nI nb) (nI ne) (nI np) x_runX x_runY x_runDone x_ops x_operands x_kinds x_targets x_builtOps x_builtOperands x_builtKinds x_firstEdge x_edgeFrom x_edgeExit x_edgeTo x_edgeWeight x_inTree x_isBack x_beginsPaths x_firstPath x_pathsFrom x_pathsBefore x_counts x_dumped x_dumpKept x_looked x_joined x_met x_nextExit x_way := by
        intro used hu1 hu2 hu3
        have Yk : ∀ {r : Int32} {u' : SX}, wY_exits_37 (fun r' v' => r' = r ∧ i_Rel (k + 6) u' v') (nI b) (nI kd) v3 v4 v5 (nI used) (nI n) (nI nb) (nI ne) y_paths y_many x_runX x_runY x_runDone y_op y_number y_kind y_target x_edgeFrom x_edgeTo x_edgeExit x_edgeWeight x_firstEdge x_inTree x_isBack y_row y_length y_gone y_done y_went y_cut x_dumpKept y_mark y_way y_tried y_stack → wpY_in (fun r_1 => (((r_1 = 0 → ((0 : Int32) = r ∧ i_Rel (k + 6) u' ((nI n), (nI nb), (nI ne), y_paths, y_many, x_runX, x_runY, x_runDone, y_op, y_number, y_kind, y_target, x_edgeFrom, x_edgeTo, x_edgeExit, x_edgeWeight, x_firstEdge, x_inTree, x_isBack, y_row, y_length, y_gone, y_done, y_went, y_cut, x_dumpKept, y_mark, y_way, y_tried, y_stack))) ∧ (¬ r_1 = 0 → (wpY_in (fun r_3 => (((r_3 = 0 → ((0 : Int32) = r ∧ i_Rel (k + 6) u' ((nI n), (nI nb), (nI ne), y_paths, y_many, x_runX, x_runY, x_runDone, y_op, y_number, y_kind, y_target, x_edgeFrom, x_edgeTo, x_edgeExit, x_edgeWeight, x_firstEdge, x_inTree, x_isBack, y_row, y_length, y_gone, y_done, y_went, y_cut, x_dumpKept, y_mark, y_way, y_tried, y_stack))) ∧ (¬ r_3 = 0 → (((nI kd = 0 → (wY_exits_37 (fun r' v' => r' = r ∧ i_Rel (k + 6) u' v') (nI b) (nI kd) v3 v4 v5 0 (nI n) (nI nb) (nI ne) y_paths y_many x_runX x_runY x_runDone y_op y_number y_kind y_target x_edgeFrom x_edgeTo x_edgeExit x_edgeWeight x_firstEdge x_inTree x_isBack y_row y_length y_gone y_done y_went y_cut x_dumpKept y_mark y_way y_tried y_stack)) ∧ (¬ nI kd = 0 → (wpY_exitsOf (fun r_6 => (wY_exits_37 (fun r' v' => r' = r ∧ i_Rel (k + 6) u' v') (nI b) (nI kd) v3 v4 v5 r_6 (nI n) (nI nb) (nI ne) y_paths y_many x_runX x_runY x_runDone y_op y_number y_kind y_target x_edgeFrom x_edgeTo x_edgeExit x_edgeWeight x_firstEdge x_inTree x_isBack y_row y_length y_gone y_done y_went y_cut x_dumpKept y_mark y_way y_tried y_stack)) (nI kd))))))) )) (nI kd) 0 5))))) (nI b) 0 (nI n - 1) := by
          intro r u' hY
          refine cd_yin rfl (by omega) (fun hc => absurd rfl (hc b (by omega))) (fun t ht e => br_f (by decide) ?_)
          refine cd_yin (n := 6) rfl (by omega) (fun hc => absurd rfl (hc kd (by omega))) (fun t ht e => br_f (by decide) (br_c (fun hz => ?_) (fun hz => ?_)))
          · rw [hu3 hz] at hY; exact hY
          · refine cd_yec ⟨kd, by omega, rfl⟩ ?_
            rw [← hu2.resolve_left hz]; exact hY
        refine cd_xex hb12 hu1 rfl (by omega) (fun hc => ?_) (fun a1 a2 a3 => ?_)
        · exact Yk (cd_yex hb12 hu1 (fun _ => ⟨rfl, I'⟩) (fun b1 b2 b3 => absurd ⟨b1, b2, b3⟩ hc))
        · refine Yk (cd_yex hb12 hu1 (fun hc => absurd ⟨a1, a2, a3⟩ hc) (fun b1 b2 b3 => ⟨rfl, ?_⟩))
          refine cd_mk n nb ne np (cd_Dex hD (by omega) rfl (by omega) hu2 a1 a2 a3) ?_ hC hK hP
          obtain ⟨q1, q2, q3, q4⟩ := hB
          refine ⟨q1, q2, fun c hc => ?_, q4⟩
          rw [pk_un (show 12 + c ≠ b by omega)]
          exact q3 c hc
      refine br_c (fun hz => ?_) (fun hz => ?_)
      · exact key 0 (by omega) (Or.inl hz) (fun _ => rfl)
      · exact cd_xec (key (cd_ec (nI kd)) (cd_ec_r _).2 (Or.inr rfl) (fun z => absurd z hz))
    · refine cd_yin rfl (by omega) (fun hc => absurd rfl (hc b (by omega))) (fun t ht e => br_f (by decide) ?_)
      refine cd_yin (n := 6) rfl (by omega) (fun hc => br_t rfl ⟨rfl, I'⟩) (fun t ht e => ?_)
      rw [nI_eq hkd (by omega)] at e; omega
