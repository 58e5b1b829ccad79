theorem i_vc_edge {k : Nat} {u : SX} {v : SY} (I : i_Rel k u v) (hk : k + 6 ≤ 3072) (v1 : Int32) (v2 : Int32) : wpX_edge (fun r => wpY_edge (fun r' => r' = r ∧ i_Rel (k + 6) u v) v v1 v2) u v1 v2 := by
  have I' := i_up I
  obtain ⟨x_blocks, x_builtBlocks, x_edges, x_paths, x_runX, x_runY, x_runDone, x_ops, x_operands, x_kinds, x_targets, x_builtOps, x_builtOperands, x_builtKinds, x_firstEdge, x_edgeFrom, x_edgeExit, x_edgeTo, x_edgeWeight, x_inTree, x_isBack, x_beginsPaths, x_firstPath, x_pathsFrom, x_pathsBefore, x_counts, x_dumped, x_dumpKept, x_looked, x_joined, x_met, x_nextExit, x_way⟩ := u
  obtain ⟨y_made, y_blocks, y_edges, y_paths, y_many, y_lastX, y_lastY, y_lastBlocks, y_op, y_number, y_kind, y_target, y_from, y_to, y_exit, y_weight, y_firstEdge, y_tree, y_back, y_row, y_length, y_gone, y_done, y_went, y_cut, y_kept, y_mark, y_way, y_tried, y_stack⟩ := v
  obtain ⟨n, nb, ne, np, rfl, rfl, rfl, rfl, rfl, rfl, rfl, rfl, rfl, rfl, rfl, rfl, rfl, rfl, rfl, rfl, rfl, rfl, hD, hB, hC, hK, hP⟩ := I
  have hne := cd_ne hB
  unfold wpX_edge wpX_isEdge wpY_edge
  dsimp only
  refine br_c (fun h => ?_) (fun h => ?_)
  · refine br_t rfl (cd_yin rfl (by omega) (fun _ => br_t rfl ⟨rfl, I'⟩) (fun j hj e => ?_))
    subst e; exact absurd h (nI_pos (by omega))
  · obtain ⟨j, hj, rfl⟩ := nI_of h
    refine pk_le ne j (fun h1 => ?_) (fun h1 => ?_)
    · refine br_t rfl (cd_yin rfl (by omega) (fun _ => br_t rfl ⟨rfl, I'⟩) (fun i hi e => ?_))
      rw [nI_eq hj (by omega)] at e; omega
    · have hin : vp_in (nI j) 37 := pk_in j 37 (by omega)
      refine br_f (by decide) (br_c (fun g => ?_) (fun g => br_c (fun g5 => ?_) (fun g5 => br_c (fun g0 => ⟨hin, ?_⟩) (fun g0 => br_c (fun g1 => ⟨hin, ?_⟩) (fun g1 => br_c (fun g2 => ⟨hin, ?_⟩) (fun g2 => br_c (fun g3 => ⟨hin, br_c (fun b => ?_) (fun b => ?_)⟩) (fun g3 => br_c (fun g4 => ⟨hin, br_c (fun b => ?_) (fun b => ?_)⟩) (fun g4 => br_c (fun g6 => ⟨hin, ?_⟩) (fun g6 => trivial)))))))))
      all_goals refine cd_yin rfl (by omega) (fun hc => absurd rfl (hc j h1)) (fun i hi e => br_f (by decide) ?_)
      · exact br_t g ⟨rfl, I'⟩
      · exact br_f g (br_t g5 ⟨rfl, I'⟩)
      · exact br_f g (br_f g5 (br_t g0 ⟨hin, rfl, I'⟩))
      · exact br_f g (br_f g5 (br_f g0 (br_t g1 ⟨hin, rfl, I'⟩)))
      · exact br_f g (br_f g5 (br_f g0 (br_f g1 (br_t g2 ⟨hin, rfl, I'⟩))))
      · exact br_f g (br_f g5 (br_f g0 (br_f g1 (br_f g2 (br_t g3 ⟨hin, br_t b ⟨rfl, I'⟩⟩)))))
      · exact br_f g (br_f g5 (br_f g0 (br_f g1 (br_f g2 (br_t g3 ⟨hin, br_f b ⟨rfl, I'⟩⟩)))))
      · exact br_f g (br_f g5 (br_f g0 (br_f g1 (br_f g2 (br_f g3 (br_t g4 ⟨hin, br_t b ⟨rfl, I'⟩⟩))))))
      · exact br_f g (br_f g5 (br_f g0 (br_f g1 (br_f g2 (br_f g3 (br_t g4 ⟨hin, br_f b ⟨rfl, I'⟩⟩))))))
      · exact br_f g (br_f g5 (br_f g0 (br_f g1 (br_f g2 (br_f g3 (br_f g4 (br_t g6 ⟨hin, rfl, I'⟩)))))))
section
variable {x_blocks x_builtBlocks x_edges x_paths x_runX x_runY x_runDone : Int32} {x_ops x_operands x_kinds x_targets x_builtOps x_builtOperands x_builtKinds x_firstEdge x_edgeFrom x_edgeExit x_edgeTo x_edgeWeight x_inTree x_isBack x_beginsPaths x_firstPath x_pathsFrom x_pathsBefore x_counts x_dumped x_dumpKept x_looked x_joined x_met x_nextExit x_way : Nat → Int32} {y_made y_blocks y_edges y_paths y_many y_lastX y_lastY y_lastBlocks : Int32} {y_op y_number y_kind y_target y_from y_to y_exit y_weight y_firstEdge y_tree y_back y_row y_length y_gone y_done y_went y_cut y_kept y_mark y_way y_tried y_stack : Nat → Int32}
theorem cd_xprobeN {post : Int32 → Prop} {ne : Nat} {v1 : Int32} (hne : ne ≤ 37) (h : v1 < 0) (hp : post (-1)) : ∀ d i c, i + d = ne → c ≤ i → wX_probe_4 post v1 x_blocks x_builtBlocks (nI ne) x_paths x_runX x_runY x_runDone x_ops x_operands x_kinds x_targets x_builtOps x_builtOperands x_builtKinds x_firstEdge x_edgeFrom x_edgeExit x_edgeTo x_edgeWeight x_inTree x_isBack x_beginsPaths x_firstPath x_pathsFrom x_pathsBefore x_counts x_dumped x_dumpKept x_looked x_joined x_met x_nextExit x_way (d + 1) (nI c) (nI i) := by
  intro d
  induction d with
  | zero =>
    intro i c hi hc
    exact pk_le ne i (fun _ => hp) (fun z => absurd z (by omega))
  | succ d ih =>
    intro i c hi hc
    refine pk_le ne i (fun z => absurd z (by omega)) (fun _ => ⟨pk_in i 37 (by omega), br_c (fun _ => ?_) (fun _ => ?_)⟩)
    · refine br_f (fun e => ?_) (nm_r (nI_1 c) (nm_r (nI_1 i) (ih (i + 1) (c + 1) (by omega) (by omega))))
      subst e; exact absurd h (nI_pos (by omega))
    · exact nm_r (nI_1 i) (ih (i + 1) c (by omega) (by omega))
theorem cd_probe {ne : Nat} {v1 : Int32} (hne : ne ≤ 37) (h : ¬ v1 < 0) : ∀ d i c, i + d = ne → ∃ r : Int32, (∀ post : Int32 → Prop, post r → wX_probe_4 post v1 x_blocks x_builtBlocks (nI ne) x_paths x_runX x_runY x_runDone x_ops x_operands x_kinds x_targets x_builtOps x_builtOperands x_builtKinds x_firstEdge x_edgeFrom x_edgeExit x_edgeTo x_edgeWeight x_inTree x_isBack x_beginsPaths x_firstPath x_pathsFrom x_pathsBefore x_counts x_dumped x_dumpKept x_looked x_joined x_met x_nextExit x_way (d + 1) (nI c) (nI i)) ∧ (∀ post : Int32 → Prop, post r → wY_probe_4 post v1 y_made y_blocks (nI ne) y_paths y_many y_lastX y_lastY y_lastBlocks y_op y_number y_kind y_target y_from y_to y_exit y_weight y_firstEdge x_inTree y_back y_row y_length y_gone y_done y_went y_cut y_kept y_mark y_way y_tried y_stack (d + 1) (nI c) (nI i)) := by
  intro d
  induction d with
  | zero =>
    intro i c hi
    exact ⟨-1, fun post hp => pk_le ne i (fun _ => hp) (fun z => absurd z (by omega)), fun post hp => pk_le ne i (fun _ => hp) (fun z => absurd z (by omega))⟩
  | succ d ih =>
    intro i c hi
    by_cases ht : x_inTree (nI i).toNatClampNeg = 0
    · by_cases e : nI c = v1
      · exact ⟨nI i, fun post hp => pk_le ne i (fun z => absurd z (by omega)) (fun _ => ⟨pk_in i 37 (by omega), br_t ht (br_t e hp)⟩), fun post hp => pk_le ne i (fun z => absurd z (by omega)) (fun _ => br_f h ⟨pk_in i 37 (by omega), br_t ht (br_t e hp)⟩)⟩
      · obtain ⟨r, rx, ry⟩ := ih (i + 1) (c + 1) (by omega)
        exact ⟨r, fun post hp => pk_le ne i (fun z => absurd z (by omega)) (fun _ => ⟨pk_in i 37 (by omega), br_t ht (br_f e (nm_r (nI_1 c) (nm_r (nI_1 i) (rx post hp))))⟩), fun post hp => pk_le ne i (fun z => absurd z (by omega)) (fun _ => br_f h ⟨pk_in i 37 (by omega), br_t ht (br_f e (nm_r (nI_1 c) (nm_r (nI_1 i) (ry post hp))))⟩)⟩
    · obtain ⟨r, rx, ry⟩ := ih (i + 1) c (by omega)
      exact ⟨r, fun post hp => pk_le ne i (fun z => absurd z (by omega)) (fun _ => ⟨pk_in i 37 (by omega), br_f ht (nm_r (nI_1 i) (rx post hp))⟩), fun post hp => pk_le ne i (fun z => absurd z (by omega)) (fun _ => br_f h ⟨pk_in i 37 (by omega), br_f ht (nm_r (nI_1 i) (ry post hp))⟩)⟩
/-- how many of the first n are above 0, are 0 -/
def cd_ca (f : Nat → Int32) (n : Nat) : Nat := cd_sm (fun i => if f i ≤ 0 then 0 else 1) n
def cd_cz (f : Nat → Int32) (n : Nat) : Nat := cd_sm (fun i => if f i = 0 then 1 else 0) n
theorem cd_ca_t {f : Nat → Int32} {i : Nat} (h : f i ≤ 0) : cd_ca f (i + 1) = cd_ca f i := by
  show cd_sm _ i + (if f i ≤ 0 then 0 else 1) = _
  rw [if_pos h]; rfl
theorem cd_ca_f {f : Nat → Int32} {i : Nat} (h : ¬ f i ≤ 0) : cd_ca f (i + 1) = cd_ca f i + 1 := by
  show cd_sm _ i + (if f i ≤ 0 then 0 else 1) = _
  rw [if_neg h]; rfl
theorem cd_cz_t {f : Nat → Int32} {i : Nat} (h : f i = 0) : cd_cz f (i + 1) = cd_cz f i + 1 := by
  show cd_sm _ i + (if f i = 0 then 1 else 0) = _
  rw [if_pos h]; rfl
theorem cd_cz_f {f : Nat → Int32} {i : Nat} (h : ¬ f i = 0) : cd_cz f (i + 1) = cd_cz f i := by
  show cd_sm _ i + (if f i = 0 then 1 else 0) = _
  rw [if_neg h]; rfl
theorem cd_ca_c {f g : Nat → Int32} {n : Nat} (h : ∀ i, i < n → f i = g i) : cd_ca f n = cd_ca g n := cd_sm_c n (fun i hi => by
  show (if f i ≤ 0 then 0 else 1) = (if g i ≤ 0 then 0 else 1)
  rw [h i hi])
theorem cd_xabove {post : Int32 → Prop} {s m : Nat} {q r : Int32} (hq : q = nI s) (hr : r = nI m) (hs : s + m ≤ 350) (hp : post (nI (cd_ca (fun i => x_counts (s + i)) m))) : wpX_countsAboveZero post (x_blocks, x_builtBlocks, x_edges, x_paths, x_runX, x_runY, x_runDone, x_ops, x_operands, x_kinds, x_targets, x_builtOps, x_builtOperands, x_builtKinds, x_firstEdge, x_edgeFrom, x_edgeExit, x_edgeTo, x_edgeWeight, x_inTree, x_isBack, x_beginsPaths, x_firstPath, x_pathsFrom, x_pathsBefore, x_counts, x_dumped, x_dumpKept, x_looked, x_joined, x_met, x_nextExit, x_way) q r := by
  subst hq hr
  exact cd_loop (fun n i => wX_countsAboveZero_5 post (nI s) (nI m) x_blocks x_builtBlocks x_edges x_paths x_runX x_runY x_runDone x_ops x_operands x_kinds x_targets x_builtOps x_builtOperands x_builtKinds x_firstEdge x_edgeFrom x_edgeExit x_edgeTo x_edgeWeight x_inTree x_isBack x_beginsPaths x_firstPath x_pathsFrom x_pathsBefore x_counts x_dumped x_dumpKept x_looked x_joined x_met x_nextExit x_way n (nI (cd_ca (fun i => x_counts (s + i)) i)) (nI (s + i))) m
    (fun n => pk_le (s + m) (s + m) (fun _ => hp) (fun h => absurd h (by omega)) (nI_add s m))
    (fun n i hi hn => pk_le (s + m) (s + i) (fun h => absurd h (by omega)) (fun h => ⟨pk_in (s + i) 350 (by omega), br_c
      (fun hz => nm_r (nI_1 (s + i)) (by rw [cd_cl (by omega)] at hz; rw [cd_ca_t (f := fun i => x_counts (s + i)) hz] at hn; exact hn))
      (fun hz => nm_r (nI_1 _) (nm_r (nI_1 (s + i)) (by rw [cd_cl (by omega)] at hz; rw [cd_ca_f (f := fun i => x_counts (s + i)) hz] at hn; exact hn)))⟩) (nI_add s m))
theorem cd_xprobes {post : Int32 → Prop} {m : Nat} (hm : m ≤ 37) (hp : post (nI (cd_cz x_inTree m))) : wpX_probes post (x_blocks, x_builtBlocks, (nI m), x_paths, x_runX, x_runY, x_runDone, x_ops, x_operands, x_kinds, x_targets, x_builtOps, x_builtOperands, x_builtKinds, x_firstEdge, x_edgeFrom, x_edgeExit, x_edgeTo, x_edgeWeight, x_inTree, x_isBack, x_beginsPaths, x_firstPath, x_pathsFrom, x_pathsBefore, x_counts, x_dumped, x_dumpKept, x_looked, x_joined, x_met, x_nextExit, x_way) :=
  cd_loop (fun n i => wX_probes_4 post x_blocks x_builtBlocks (nI m) x_paths x_runX x_runY x_runDone x_ops x_operands x_kinds x_targets x_builtOps x_builtOperands x_builtKinds x_firstEdge x_edgeFrom x_edgeExit x_edgeTo x_edgeWeight x_inTree x_isBack x_beginsPaths x_firstPath x_pathsFrom x_pathsBefore x_counts x_dumped x_dumpKept x_looked x_joined x_met x_nextExit x_way n (nI (cd_cz x_inTree i)) (nI i)) m
    (fun n => pk_le m m (fun _ => hp) (fun h => absurd h (by omega)))
    (fun n i hi hn => pk_le m i (fun h => absurd h (by omega)) (fun h => ⟨pk_in i 37 (by omega), br_c
      (fun hz => nm_r (nI_1 _) (nm_r (nI_1 i) (by rw [cd_cl (by omega)] at hz; rw [cd_cz_t hz] at hn; exact hn)))
      (fun hz => nm_r (nI_1 i) (by rw [cd_cl (by omega)] at hz; rw [cd_cz_f hz] at hn; exact hn))⟩))
theorem cd_ycov71 {post : Int32 → Prop} {m : Nat} (hm : m ≤ 12) (hp : post (nI (cd_ca y_done m))) : ∃ n, wY_covered_71 post y_made (nI m) y_edges y_paths y_many y_lastX y_lastY y_lastBlocks y_op y_number y_kind y_target y_from y_to y_exit y_weight y_firstEdge y_tree y_back y_row y_length y_gone y_done y_went y_cut y_kept y_mark y_way y_tried y_stack n 0 0 :=
  cd_loop (fun n i => wY_covered_71 post y_made (nI m) y_edges y_paths y_many y_lastX y_lastY y_lastBlocks y_op y_number y_kind y_target y_from y_to y_exit y_weight y_firstEdge y_tree y_back y_row y_length y_gone y_done y_went y_cut y_kept y_mark y_way y_tried y_stack n (nI (cd_ca y_done i)) (nI i)) m
    (fun n => pk_le m m (fun _ => hp) (fun h => absurd h (by omega)))
    (fun n i hi hn => pk_le m i (fun h => absurd h (by omega)) (fun h => ⟨pk_in i 36 (by omega), br_c
      (fun hz => nm_r (nI_1 i) (by rw [cd_cl (by omega)] at hz; rw [cd_ca_t hz] at hn; exact hn))
      (fun hz => nm_r (nI_1 _) (nm_r (nI_1 i) (by rw [cd_cl (by omega)] at hz; rw [cd_ca_f hz] at hn; exact hn)))⟩))
theorem cd_ycov108 {post : Int32 → Prop} {m : Nat} (hm : m < 37) (hp : post (nI (cd_ca y_gone m))) : ∃ n, wY_covered_108 post y_made y_blocks (nI (m + 1)) y_paths y_many y_lastX y_lastY y_lastBlocks y_op y_number y_kind y_target y_from y_to y_exit y_weight y_firstEdge y_tree y_back y_row y_length y_gone y_done y_went y_cut y_kept y_mark y_way y_tried y_stack n 0 0 :=
  cd_loop (fun n i => wY_covered_108 post y_made y_blocks (nI (m + 1)) y_paths y_many y_lastX y_lastY y_lastBlocks y_op y_number y_kind y_target y_from y_to y_exit y_weight y_firstEdge y_tree y_back y_row y_length y_gone y_done y_went y_cut y_kept y_mark y_way y_tried y_stack n (nI (cd_ca y_gone i)) (nI i)) m
    (fun n => pk_le m m (fun _ => hp) (fun h => absurd h (by omega)) (nI_pred m))
    (fun n i hi hn => pk_le m i (fun h => absurd h (by omega)) (fun h => ⟨pk_in i 111 (by omega), br_c
      (fun hz => nm_r (nI_1 i) (by rw [cd_cl (by omega)] at hz; rw [cd_ca_t hz] at hn; exact hn))
      (fun hz => nm_r (nI_1 _) (nm_r (nI_1 i) (by rw [cd_cl (by omega)] at hz; rw [cd_ca_f hz] at hn; exact hn)))⟩) (nI_pred m))
theorem cd_ycov157 {post : Int32 → Prop} {m : Nat} (hm : m ≤ 300) (hp : (y_many = 0 → post (nI (cd_ca y_went m))) ∧ (¬ y_many = 0 → post (-2))) : ∃ n, wY_covered_157 post y_made y_blocks y_edges (nI m) y_many y_lastX y_lastY y_lastBlocks y_op y_number y_kind y_target y_from y_to y_exit y_weight y_firstEdge y_tree y_back y_row y_length y_gone y_done y_went y_cut y_kept y_mark y_way y_tried y_stack n 0 0 :=
  cd_loop (fun n i => wY_covered_157 post y_made y_blocks y_edges (nI m) y_many y_lastX y_lastY y_lastBlocks y_op y_number y_kind y_target y_from y_to y_exit y_weight y_firstEdge y_tree y_back y_row y_length y_gone y_done y_went y_cut y_kept y_mark y_way y_tried y_stack n (nI (cd_ca y_went i)) (nI i)) m
    (fun n => pk_le m m (fun _ => hp) (fun h => absurd h (by omega)))
    (fun n i hi hn => pk_le m i (fun h => absurd h (by omega)) (fun h => ⟨pk_in i 900 (by omega), br_c
      (fun hz => nm_r (nI_1 i) (by rw [cd_cl (by omega)] at hz; rw [cd_ca_t hz] at hn; exact hn))
      (fun hz => nm_r (nI_1 _) (nm_r (nI_1 i) (by rw [cd_cl (by omega)] at hz; rw [cd_ca_f hz] at hn; exact hn)))⟩))
theorem cd_ycov199 {post : Int32 → Prop} {m : Nat} (hm : m ≤ 37) (hp : post (nI (cd_cz y_tree m))) : ∃ n, wY_covered_199 post y_made y_blocks (nI m) y_paths y_many y_lastX y_lastY y_lastBlocks y_op y_number y_kind y_target y_from y_to y_exit y_weight y_firstEdge y_tree y_back y_row y_length y_gone y_done y_went y_cut y_kept y_mark y_way y_tried y_stack n 0 0 :=
  cd_loop (fun n i => wY_covered_199 post y_made y_blocks (nI m) y_paths y_many y_lastX y_lastY y_lastBlocks y_op y_number y_kind y_target y_from y_to y_exit y_weight y_firstEdge y_tree y_back y_row y_length y_gone y_done y_went y_cut y_kept y_mark y_way y_tried y_stack n (nI (cd_cz y_tree i)) (nI i)) m
    (fun n => pk_le m m (fun _ => hp) (fun h => absurd h (by omega)))
    (fun n i hi hn => pk_le m i (fun h => absurd h (by omega)) (fun h => ⟨pk_in i 37 (by omega), br_c
      (fun hz => nm_r (nI_1 _) (nm_r (nI_1 i) (by rw [cd_cl (by omega)] at hz; rw [cd_cz_t hz] at hn; exact hn)))
      (fun hz => nm_r (nI_1 i) (by rw [cd_cl (by omega)] at hz; rw [cd_cz_f hz] at hn; exact hn))⟩))
end
theorem i_vc_probe {k : Nat} {u : SX} {v : SY} (I : i_Rel k u v) (hk : k + 6 ≤ 3072) (v1 : Int32) : wpX_probe (fun r => wpY_probe (fun r' => r' = r ∧ i_Rel (k + 6) u v) v v1) u v1 := by
  have I' := i_up I
  obtain ⟨x_blocks, x_builtBlocks, x_edges, x_paths, x_runX, x_runY, x_runDone, x_ops, x_operands, x_kinds, x_targets, x_builtOps, x_builtOperands, x_builtKinds, x_firstEdge, x_edgeFrom, x_edgeExit, x_edgeTo, x_edgeWeight, x_inTree, x_isBack, x_beginsPaths, x_firstPath, x_pathsFrom, x_pathsBefore, x_counts, x_dumped, x_dumpKept, x_looked, x_joined, x_met, x_nextExit, x_way⟩ := u
  obtain ⟨y_made, y_blocks, y_edges, y_paths, y_many, y_lastX, y_lastY, y_lastBlocks, y_op, y_number, y_kind, y_target, y_from, y_to, y_exit, y_weight, y_firstEdge, y_tree, y_back, y_row, y_length, y_gone, y_done, y_went, y_cut, y_kept, y_mark, y_way, y_tried, y_stack⟩ := v
  obtain ⟨n, nb, ne, np, rfl, rfl, rfl, rfl, rfl, rfl, rfl, rfl, rfl, rfl, rfl, rfl, rfl, rfl, rfl, rfl, rfl, rfl, hD, hB, hC, hK, hP⟩ := I
  have hne := cd_ne hB
  by_cases h : v1 < 0
  · refine Exists.intro (ne + 1) (cd_xprobeN (by omega) h ?_ ne 0 0 (by omega) (by omega))
    refine Exists.intro 1 (pk_le ne 0 (fun _ => ⟨rfl, I'⟩) (fun _ => br_t h ⟨rfl, I'⟩))
  · have P : ∃ r : Int32, (∀ post : Int32 → Prop, post r → wX_probe_4 post v1 (nI n) (nI nb) (nI ne) (nI np) x_runX x_runY x_runDone x_ops x_operands x_kinds x_targets x_builtOps x_builtOperands x_builtKinds x_firstEdge x_edgeFrom x_edgeExit x_edgeTo x_edgeWeight x_inTree x_isBack x_beginsPaths x_firstPath x_pathsFrom x_pathsBefore x_counts x_dumped x_dumpKept x_looked x_joined x_met x_nextExit x_way (ne + 1) (nI 0) (nI 0)) ∧ (∀ post : Int32 → Prop, post r → wY_probe_4 post v1 (nI n) (nI nb) (nI ne) y_paths y_many x_runX x_runY x_runDone y_op y_number y_kind y_target x_edgeFrom x_edgeTo x_edgeExit x_edgeWeight x_firstEdge x_inTree x_isBack y_row y_length y_gone y_done y_went y_cut x_dumpKept y_mark y_way y_tried y_stack (ne + 1) (nI 0) (nI 0)) := cd_probe (by omega) h ne 0 0 (by omega)
    obtain ⟨r, rx, ry⟩ := P
    exact Exists.intro (ne + 1) (rx _ (Exists.intro (ne + 1) (ry _ ⟨rfl, I'⟩)))
theorem cd_rk3 {r : Nat} (h : r < 12) : 3 ^ (r + 1) ≤ 531441 := by
  have : 3 ^ (r + 1) ≤ 3 ^ 12 := Nat.pow_le_pow_right (by omega) (by omega)
  have e : 3 ^ 12 = 531441 := by decide
  omega
theorem cd_G3 {nb : Nat} {bk to ib pf pb : Nat → Int32} {L : Nat → Prop} {rk G : Nat → Nat} (hG : cd_PG nb bk to ib L rk) (hN : cd_PN nb bk to ib pf pb L rk G) (hnb : nb ≤ 12) {b : Nat} (hb : b < nb) (hl : L b) : G b ≤ 531441 :=
  Nat.le_trans (hN b hb hl).2.2.1 (cd_rk3 (by have := (hG.2 b hb hl).1; omega))
theorem cd_fp3 {nb : Nat} {bk to ib pf pb bg : Nat → Int32} {L : Nat → Prop} {rk G : Nat → Nat} (hG : cd_PG nb bk to ib L rk) (hN : cd_PN nb bk to ib pf pb L rk G) (hL : ∀ b, b < nb → bg b ≠ 0 → L b) (hnb : nb ≤ 12) {b : Nat} (hb : b ≤ nb) : cd_fp bg G b ≤ 6377292 := by
  have h := cd_sm_le (f := fun c => if bg c = 0 then 0 else G c) (c := 531441) b (fun i hi => by
    show (if bg i = 0 then 0 else G i) ≤ 531441
    split
    · omega
    · rename_i h
      exact cd_G3 hG hN hnb (by omega) (hL i (by omega) h))
  unfold cd_fp
  omega
/-- what the answers need of the paths -/
theorem cd_Pn {nb ne np : Nat} {bk to ib pf pb bg fp : Nat → Int32} {yp ym : Int32} {row len : Nat → Int32} (h : cd_P nb ne np bk to ib pf pb bg fp yp ym row len) (hb : 0 < nb) (hnb : nb ≤ 12) : ∃ ny, yp = nI ny ∧ ((ym = 0 ∧ ny = np ∧ np ≤ 300) ∨ (¬ ym = 0 ∧ ny = 300 ∧ 300 < np ∧ np < 1000000000)) := by
  obtain ⟨L, rk, G, hG, hN, hB, hL, hF, hp, ny, hy, ho, hR⟩ := h.2 hb
  refine ⟨ny, hy, ?_⟩
  have := cd_fp3 hG hN hL hnb (Nat.le_refl nb)
  rcases ho with h1 | ⟨h1, h2, h3⟩
  · exact Or.inl h1
  · exact Or.inr ⟨h1, h2, h3, by omega⟩
theorem i_vc_path {k : Nat} {u : SX} {v : SY} (I : i_Rel k u v) (hk : k + 6 ≤ 3072) (v1 : Int32) : wpX_path (fun r => wpY_path (fun r' => r' = r ∧ i_Rel (k + 6) u v) v v1) u v1 := by
  have I' := i_up I
  obtain ⟨x_blocks, x_builtBlocks, x_edges, x_paths, x_runX, x_runY, x_runDone, x_ops, x_operands, x_kinds, x_targets, x_builtOps, x_builtOperands, x_builtKinds, x_firstEdge, x_edgeFrom, x_edgeExit, x_edgeTo, x_edgeWeight, x_inTree, x_isBack, x_beginsPaths, x_firstPath, x_pathsFrom, x_pathsBefore, x_counts, x_dumped, x_dumpKept, x_looked, x_joined, x_met, x_nextExit, x_way⟩ := u
  obtain ⟨y_made, y_blocks, y_edges, y_paths, y_many, y_lastX, y_lastY, y_lastBlocks, y_op, y_number, y_kind, y_target, y_from, y_to, y_exit, y_weight, y_firstEdge, y_tree, y_back, y_row, y_length, y_gone, y_done, y_went, y_cut, y_kept, y_mark, y_way, y_tried, y_stack⟩ := v
  obtain ⟨n, nb, ne, np, rfl, rfl, rfl, rfl, rfl, rfl, rfl, rfl, rfl, rfl, rfl, rfl, rfl, rfl, rfl, rfl, rfl, rfl, hD, hB, hC, hK, hP⟩ := I
  have hne := cd_ne hB
  by_cases hz : nb = 0
  · have hz2 := hP.1 hz
    subst hz2
    have e0 : ne = 0 := by omega
    unfold wpX_path wpX_isPath wpY_path
    dsimp only
    refine br_c (fun h => ?_) (fun h => ?_)
    · exact br_t rfl (pk_le ne 0 (fun _ => ⟨rfl, I'⟩) (fun z => absurd z (by omega)))
    · obtain ⟨j, hj, rfl⟩ := nI_of h
      exact pk_le 0 j (fun _ => br_t rfl (pk_le ne 0 (fun _ => ⟨rfl, I'⟩) (fun z => absurd z (by omega)))) (fun z => absurd z (by omega))
  · obtain ⟨ny, rfl, ho⟩ := cd_Pn hP (by omega) (by omega)
    unfold wpX_path wpX_isPath wpX_tooManyPaths wpY_path
    dsimp only
    have Y0 : (y_many = 0 → ∀ t : Nat, t < ny → ¬ v1 = nI t) → (((nI ne ≤ 0 → ((-1 : Int32) = -1 ∧ i_Rel (k + 6) ((nI n), (nI nb), (nI ne), (nI np), x_runX, x_runY, x_runDone, x_ops, x_operands, x_kinds, x_targets, x_builtOps, x_builtOperands, x_builtKinds, x_firstEdge, x_edgeFrom, x_edgeExit, x_edgeTo, x_edgeWeight, x_inTree, x_isBack, x_beginsPaths, x_firstPath, x_pathsFrom, x_pathsBefore, x_counts, x_dumped, x_dumpKept, x_looked, x_joined, x_met, x_nextExit, x_way) ((nI n), (nI nb), (nI ne), (nI ny), y_many, x_runX, x_runY, x_runDone, y_op, y_number, y_kind, y_target, x_edgeFrom, x_edgeTo, x_edgeExit, x_edgeWeight, x_firstEdge, x_inTree, x_isBack, y_row, y_length, y_gone, y_done, y_went, y_cut, x_dumpKept, y_mark, y_way, y_tried, y_stack))) ∧ (¬ nI ne ≤ 0 → (((y_many = 0 → (wpY_in (fun r_3 => (((r_3 = 0 → ((-1 : Int32) = -1 ∧ i_Rel (k + 6) ((nI n), (nI nb), (nI ne), (nI np), x_runX, x_runY, x_runDone, x_ops, x_operands, x_kinds, x_targets, x_builtOps, x_builtOperands, x_builtKinds, x_firstEdge, x_edgeFrom, x_edgeExit, x_edgeTo, x_edgeWeight, x_inTree, x_isBack, x_beginsPaths, x_firstPath, x_pathsFrom, x_pathsBefore, x_counts, x_dumped, x_dumpKept, x_looked, x_joined, x_met, x_nextExit, x_way) ((nI n), (nI nb), (nI ne), (nI ny), y_many, x_runX, x_runY, x_runDone, y_op, y_number, y_kind, y_target, x_edgeFrom, x_edgeTo, x_edgeExit, x_edgeWeight, x_firstEdge, x_inTree, x_isBack, y_row, y_length, y_gone, y_done, y_went, y_cut, x_dumpKept, y_mark, y_way, y_tried, y_stack))) ∧ (¬ r_3 = 0 → (vp_in v1 900 ∧ (y_went v1.toNatClampNeg = -1 ∧ i_Rel (k + 6) ((nI n), (nI nb), (nI ne), (nI np), x_runX, x_runY, x_runDone, x_ops, x_operands, x_kinds, x_targets, x_builtOps, x_builtOperands, x_builtKinds, x_firstEdge, x_edgeFrom, x_edgeExit, x_edgeTo, x_edgeWeight, x_inTree, x_isBack, x_beginsPaths, x_firstPath, x_pathsFrom, x_pathsBefore, x_counts, x_dumped, x_dumpKept, x_looked, x_joined, x_met, x_nextExit, x_way) ((nI n), (nI nb), (nI ne), (nI ny), y_many, x_runX, x_runY, x_runDone, y_op, y_number, y_kind, y_target, x_edgeFrom, x_edgeTo, x_edgeExit, x_edgeWeight, x_firstEdge, x_inTree, x_isBack, y_row, y_length, y_gone, y_done, y_went, y_cut, x_dumpKept, y_mark, y_way, y_tried, y_stack))))))) v1 0 (nI ny - 1))) ∧ (¬ y_many = 0 → ((-1 : Int32) = -1 ∧ i_Rel (k + 6) ((nI n), (nI nb), (nI ne), (nI np), x_runX, x_runY, x_runDone, x_ops, x_operands, x_kinds, x_targets, x_builtOps, x_builtOperands, x_builtKinds, x_firstEdge, x_edgeFrom, x_edgeExit, x_edgeTo, x_edgeWeight, x_inTree, x_isBack, x_beginsPaths, x_firstPath, x_pathsFrom, x_pathsBefore, x_counts, x_dumped, x_dumpKept, x_looked, x_joined, x_met, x_nextExit, x_way) ((nI n), (nI nb), (nI ne), (nI ny), y_many, x_runX, x_runY, x_runDone, y_op, y_number, y_kind, y_target, x_edgeFrom, x_edgeTo, x_edgeExit, x_edgeWeight, x_firstEdge, x_inTree, x_isBack, y_row, y_length, y_gone, y_done, y_went, y_cut, x_dumpKept, y_mark, y_way, y_tried, y_stack))))))) ) := fun hb =>
      pk_le ne 0 (fun z => absurd z (by omega)) (fun _ => br_c (fun hm => cd_yin rfl (by omega) (fun _ => br_t rfl ⟨rfl, I'⟩) (fun t ht e => absurd e (hb hm t ht))) (fun _ => ⟨rfl, I'⟩))
    refine br_c (fun h => ?_) (fun h => ?_)
    · refine br_t rfl (Y0 (fun _ t ht e => ?_))
      subst e; exact absurd h (nI_pos (by omega))
    · obtain ⟨j, hj, rfl⟩ := nI_of h
      have hnp : np < 1000000000 := by omega
      refine pk_le np j (fun h1 => ?_) (fun h1 => ?_)
      · refine br_t rfl (Y0 (fun hm t ht e => ?_))
        rw [nI_eq hj (by omega)] at e
        rcases ho with ho | ho
        · omega
        · exact ho.1 hm
      · refine pk_le np 300 (fun h3 => ?_) (fun h3 => ?_)
        · have ho' : y_many = 0 ∧ ny = np ∧ np ≤ 300 := by
            rcases ho with ho | ho
            · exact ho
            · omega
          have c : (49 : Int32) + nI j = nI (49 + j) := nI_add 49 j
          refine br_t rfl (br_f (by decide) ⟨pk_in (49 + j) 350 (by omega) c, pk_le ne 0 (fun z => absurd z (by omega)) (fun _ => br_t ho'.1 (cd_yin rfl (by omega) (fun hc => absurd rfl (hc j (by omega))) (fun t ht e => br_f (by decide) ⟨pk_in j 900 (by omega), ?_, I'⟩)))⟩)
          rw [c, nI_clamp hj, cd_cl (by omega)]
          exact hC.2.2.1 ho'.1 j (by omega)
        · refine br_f (by decide) (br_t rfl (Y0 (fun hm => ?_)))
          rcases ho with ho | ho
          · omega
          · exact absurd hm ho.1
theorem i_vc_covered {k : Nat} {u : SX} {v : SY} (I : i_Rel k u v) (hk : k + 6 ≤ 3072) (v1 : Int32) : wpX_covered (fun r => wpY_covered (fun r' => r' = r ∧ i_Rel (k + 6) u v) v v1) u v1 := by
  have I' := i_up I
  obtain ⟨x_blocks, x_builtBlocks, x_edges, x_paths, x_runX, x_runY, x_runDone, x_ops, x_operands, x_kinds, x_targets, x_builtOps, x_builtOperands, x_builtKinds, x_firstEdge, x_edgeFrom, x_edgeExit, x_edgeTo, x_edgeWeight, x_inTree, x_isBack, x_beginsPaths, x_firstPath, x_pathsFrom, x_pathsBefore, x_counts, x_dumped, x_dumpKept, x_looked, x_joined, x_met, x_nextExit, x_way⟩ := u
  obtain ⟨y_made, y_blocks, y_edges, y_paths, y_many, y_lastX, y_lastY, y_lastBlocks, y_op, y_number, y_kind, y_target, y_from, y_to, y_exit, y_weight, y_firstEdge, y_tree, y_back, y_row, y_length, y_gone, y_done, y_went, y_cut, y_kept, y_mark, y_way, y_tried, y_stack⟩ := v
  obtain ⟨n, nb, ne, np, rfl, rfl, rfl, rfl, rfl, rfl, rfl, rfl, rfl, rfl, rfl, rfl, rfl, rfl, rfl, rfl, rfl, rfl, hD, hB, hC, hK, hP⟩ := I
  have hne := cd_ne hB
  unfold wpX_covered wpY_covered
  dsimp only
  refine pk_eq nb 0 (fun hz => ?_) (fun hz => ?_)
  · exact pk_eq ne 0 (fun _ => ⟨rfl, I'⟩) (fun z => absurd z (by omega))
  obtain ⟨ny, rfl, ho⟩ := cd_Pn hP (by omega) (by omega)
  obtain ⟨m, rfl⟩ : ∃ m, ne = m + 1 := ⟨ne - 1, by omega⟩
  refine br_c (fun h => ?_) (fun h => ?_)
  · refine pk_eq (m + 1) 0 (fun z => absurd z (by omega)) (fun _ => cd_yin (n := 8) rfl (by omega) (fun _ => br_t rfl ⟨rfl, I'⟩) (fun t ht e => ?_))
    subst e; exact absurd h (nI_pos (by omega))
  obtain ⟨j, hj, rfl⟩ := nI_of h
  refine pk_lt 7 j (fun h7 => ?_) (fun h7 => ?_)
  · refine pk_eq (m + 1) 0 (fun z => absurd z (by omega)) (fun _ => cd_yin (n := 8) rfl (by omega) (fun _ => br_t rfl ⟨rfl, I'⟩) (fun t ht e => ?_))
    rw [nI_eq hj (by omega)] at e; omega
  have Q : ∀ {A B C : Prop} , C → ((nI (m + 1) = 0 → A) ∧ (¬ nI (m + 1) = 0 → wpY_in (fun r_2 => ((r_2 = 0 → B) ∧ (¬ r_2 = 0 → C))) (nI j) 0 7)) := fun hc => pk_eq (m + 1) 0 (fun z => absurd z (by omega)) (fun _ => cd_yin (n := 8) rfl (by omega) (fun hh => absurd rfl (hh j (by omega))) (fun t ht e => br_f (by decide) hc))
  refine pk_eq j 0 (fun e0 => Q ?_) (fun e0 => pk_eq j 1 (fun e1 => cd_xabove (s := 37) (m := nb) rfl rfl (by omega) (Q ?_)) (fun e1 => pk_eq j 2 (fun e2 => Q ?_) (fun e2 => pk_eq j 3 (fun e3 => cd_xabove (s := 0) (m := m) rfl (nI_pred m) (by omega) (Q ?_)) (fun e3 => pk_eq j 4 (fun e4 => ?_) (fun e4 => pk_eq j 5 (fun e5 => ?_) (fun e5 => pk_eq j 6 (fun e6 => cd_xprobes (by omega) (Q ?_)) (fun e6 => pk_eq j 7 (fun e7 => Q ?_) (fun e7 => trivial))))))))
  · exact br_f h (pk_lt 6 j (fun z => absurd z (by omega)) (fun _ => pk_eq j 0 (fun _ => ⟨rfl, I'⟩) (fun z => absurd e0 z)))
  · refine br_f h (pk_lt 6 j (fun z => absurd z (by omega)) (fun _ => pk_eq j 0 (fun z => absurd z e0) (fun _ => pk_eq j 1 (fun _ => cd_ycov71 (by omega) ⟨?_, I'⟩) (fun z => absurd e1 z))))
    exact congrArg nI (cd_ca_c (fun i hi => hC.2.1 i (by omega)))
  · exact br_f h (pk_lt 6 j (fun z => absurd z (by omega)) (fun _ => pk_eq j 0 (fun z => absurd z e0) (fun _ => pk_eq j 1 (fun z => absurd z e1) (fun _ => pk_eq j 2 (fun _ => ⟨rfl, I'⟩) (fun z => absurd e2 z)))))
  · refine br_f h (pk_lt 6 j (fun z => absurd z (by omega)) (fun _ => pk_eq j 0 (fun z => absurd z e0) (fun _ => pk_eq j 1 (fun z => absurd z e1) (fun _ => pk_eq j 2 (fun z => absurd z e2) (fun _ => pk_eq j 3 (fun _ => cd_ycov108 (by omega) ⟨?_, I'⟩) (fun z => absurd e3 z))))))
    exact congrArg nI (cd_ca_c (fun i hi => (hC.1 i (by omega)).trans (congrArg x_counts (by omega))))
  · unfold wpX_tooManyPaths
    dsimp only
    refine pk_le np 300 (fun h3 => br_t rfl (Q ?_)) (fun h3 => br_f (by decide) (Q ?_))
    · have ho' : y_many = 0 ∧ ny = np ∧ np ≤ 300 := by
        rcases ho with ho | ho
        · exact ho
        · omega
      exact br_f h (pk_lt 6 j (fun z => absurd z (by omega)) (fun _ => pk_eq j 0 (fun z => absurd z e0) (fun _ => pk_eq j 1 (fun z => absurd z e1) (fun _ => pk_eq j 2 (fun z => absurd z e2) (fun _ => pk_eq j 3 (fun z => absurd z e3) (fun _ => pk_eq j 4 (fun _ => br_t ho'.1 ⟨congrArg nI ho'.2.1, I'⟩) (fun z => absurd e4 z)))))))
    · have ho' : ¬ y_many = 0 := by
        rcases ho with ho | ho
        · omega
        · exact ho.1
      exact br_f h (pk_lt 6 j (fun z => absurd z (by omega)) (fun _ => pk_eq j 0 (fun z => absurd z e0) (fun _ => pk_eq j 1 (fun z => absurd z e1) (fun _ => pk_eq j 2 (fun z => absurd z e2) (fun _ => pk_eq j 3 (fun z => absurd z e3) (fun _ => pk_eq j 4 (fun _ => br_f ho' ⟨rfl, I'⟩) (fun z => absurd e4 z)))))))
  · unfold wpX_tooManyPaths
    dsimp only
    refine pk_le np 300 (fun h3 => br_t rfl (cd_xabove (s := 49) (m := np) rfl rfl (by omega) (Q ?_))) (fun h3 => br_f (by decide) (Q ?_))
    · have ho' : y_many = 0 ∧ ny = np ∧ np ≤ 300 := by
        rcases ho with ho | ho
        · exact ho
        · omega
      refine br_f h (pk_lt 6 j (fun z => absurd z (by omega)) (fun _ => pk_eq j 0 (fun z => absurd z e0) (fun _ => pk_eq j 1 (fun z => absurd z e1) (fun _ => pk_eq j 2 (fun z => absurd z e2) (fun _ => pk_eq j 3 (fun z => absurd z e3) (fun _ => pk_eq j 4 (fun z => absurd z e4) (fun _ => pk_eq j 5 (fun _ => cd_ycov157 (by omega) (br_t ho'.1 ⟨?_, I'⟩)) (fun z => absurd e5 z))))))))
      rw [ho'.2.1]
      exact congrArg nI (cd_ca_c (fun i hi => hC.2.2.1 ho'.1 i (by omega)))
    · have ho' : ¬ y_many = 0 := by
        rcases ho with ho | ho
        · omega
        · exact ho.1
      exact br_f h (pk_lt 6 j (fun z => absurd z (by omega)) (fun _ => pk_eq j 0 (fun z => absurd z e0) (fun _ => pk_eq j 1 (fun z => absurd z e1) (fun _ => pk_eq j 2 (fun z => absurd z e2) (fun _ => pk_eq j 3 (fun z => absurd z e3) (fun _ => pk_eq j 4 (fun z => absurd z e4) (fun _ => pk_eq j 5 (fun _ => cd_ycov157 (by omega) (br_f ho' ⟨rfl, I'⟩)) (fun z => absurd e5 z))))))))
  · exact br_f h (pk_lt 6 j (fun z => absurd z (by omega)) (fun _ => pk_eq j 0 (fun z => absurd z e0) (fun _ => pk_eq j 1 (fun z => absurd z e1) (fun _ => pk_eq j 2 (fun z => absurd z e2) (fun _ => pk_eq j 3 (fun z => absurd z e3) (fun _ => pk_eq j 4 (fun z => absurd z e4) (fun _ => pk_eq j 5 (fun z => absurd z e5) (fun _ => pk_eq j 6 (fun _ => cd_ycov199 (by omega) ⟨rfl, I'⟩) (fun z => absurd e6 z)))))))))
  · exact br_f h (pk_lt 6 j (fun _ => ⟨hC.2.2.2, I'⟩) (fun z => absurd z (by omega)))
