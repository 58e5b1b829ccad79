section
variable {x_blocks x_builtBlocks x_edges x_paths x_runX x_runY x_runDone : Int32} {x_ops x_operands x_kinds x_targets x_builtOps x_builtOperands x_builtKinds x_firstEdge x_edgeFrom x_edgeExit x_edgeTo x_edgeWeight x_inTree x_isBack x_beginsPaths x_firstPath x_pathsFrom x_pathsBefore x_counts x_dumped x_dumpKept x_looked x_joined x_met x_nextExit x_way : Nat → Int32} {y_made y_blocks y_edges y_paths y_many y_lastX y_lastY y_lastBlocks : Int32} {y_op y_number y_kind y_target y_from y_to y_exit y_weight y_firstEdge y_tree y_back y_row y_length y_gone y_done y_went y_cut y_kept y_mark y_way y_tried y_stack : Nat → Int32}
theorem cd_xdump {post : Int32 → SX → Prop} {d : Nat} (hd : d < 2) (hp : post 1 (x_blocks, x_builtBlocks, x_edges, x_paths, x_runX, x_runY, x_runDone, x_ops, x_operands, x_kinds, x_targets, x_builtOps, x_builtOperands, x_builtKinds, x_firstEdge, x_edgeFrom, x_edgeExit, x_edgeTo, x_edgeWeight, x_inTree, x_isBack, x_beginsPaths, x_firstPath, x_pathsFrom, x_pathsBefore, (cd_fo x_counts 0 350 (fun _ => 0)), (cd_fo x_dumped (350 * d) 350 x_counts), (upd x_dumpKept d 1), x_looked, x_joined, x_met, x_nextExit, x_way)) : ∃ n, wX_dump_26 post (nI d) (nI (350 * d)) x_blocks x_builtBlocks x_edges x_paths x_runX x_runY x_runDone n 0 x_ops x_operands x_kinds x_targets x_builtOps x_builtOperands x_builtKinds x_firstEdge x_edgeFrom x_edgeExit x_edgeTo x_edgeWeight x_inTree x_isBack x_beginsPaths x_firstPath x_pathsFrom x_pathsBefore x_counts x_dumped x_dumpKept x_looked x_joined x_met x_nextExit x_way :=
  cd_loop (fun n i => wX_dump_26 post (nI d) (nI (350 * d)) x_blocks x_builtBlocks x_edges x_paths x_runX x_runY x_runDone n (nI i) x_ops x_operands x_kinds x_targets x_builtOps x_builtOperands x_builtKinds x_firstEdge x_edgeFrom x_edgeExit x_edgeTo x_edgeWeight x_inTree x_isBack x_beginsPaths x_firstPath x_pathsFrom x_pathsBefore x_counts (cd_fo x_dumped (350 * d) i x_counts) x_dumpKept x_looked x_joined x_met x_nextExit x_way) 350
    (fun n => pk_le 350 350 (fun _ => ⟨pk_in d 2 hd, nm_r (congrArg (fun q => upd x_dumpKept q 1) (cd_cl (by omega))) (cd_xzero hp)⟩) (fun h => absurd h (by omega)))
    (fun n i hi hn => pk_le 350 i (fun h => absurd h (by omega)) (fun h => ⟨pk_in i 350 hi, pk_in (350 * d + i) 700 (by omega) (nI_add _ _), nm_r (cd_fo_u (nI_add _ _) (by omega) (congrArg x_counts (cd_cl (by omega)))) (nm_r (nI_1 i) hn)⟩))
theorem cd_xmerge {post : Int32 → SX → Prop} {d : Nat} (hd : d < 2) (hp : post 1 (x_blocks, x_builtBlocks, x_edges, x_paths, x_runX, x_runY, x_runDone, x_ops, x_operands, x_kinds, x_targets, x_builtOps, x_builtOperands, x_builtKinds, x_firstEdge, x_edgeFrom, x_edgeExit, x_edgeTo, x_edgeWeight, x_inTree, x_isBack, x_beginsPaths, x_firstPath, x_pathsFrom, x_pathsBefore, (cd_fo x_counts 0 350 (fun i => x_counts i + x_dumped (350 * d + i))), x_dumped, x_dumpKept, x_looked, x_joined, x_met, x_nextExit, x_way)) : ∃ n, wX_merge_53 post (nI (350 * d)) x_blocks x_builtBlocks x_edges x_paths x_runX x_runY x_runDone n 0 x_ops x_operands x_kinds x_targets x_builtOps x_builtOperands x_builtKinds x_firstEdge x_edgeFrom x_edgeExit x_edgeTo x_edgeWeight x_inTree x_isBack x_beginsPaths x_firstPath x_pathsFrom x_pathsBefore x_counts x_dumped x_dumpKept x_looked x_joined x_met x_nextExit x_way :=
  cd_loop (fun n i => wX_merge_53 post (nI (350 * d)) x_blocks x_builtBlocks x_edges x_paths x_runX x_runY x_runDone n (nI i) x_ops x_operands x_kinds x_targets x_builtOps x_builtOperands x_builtKinds x_firstEdge x_edgeFrom x_edgeExit x_edgeTo x_edgeWeight x_inTree x_isBack x_beginsPaths x_firstPath x_pathsFrom x_pathsBefore (cd_fo x_counts 0 i (fun i => x_counts i + x_dumped (350 * d + i))) x_dumped x_dumpKept x_looked x_joined x_met x_nextExit x_way) 350
    (fun n => pk_le 350 350 (fun _ => hp) (fun h => absurd h (by omega)))
    (fun n i hi hn => pk_le 350 i (fun h => absurd h (by omega)) (fun h => ⟨pk_in i 350 hi, pk_in (350 * d + i) 700 (by omega) (nI_add _ _), pk_in i 350 hi, nm_r (cd_fo_z (by omega) (by rw [nI_add, cd_cl (by omega), cd_cl (by omega), cd_fo_out (by omega)])) (nm_r (nI_1 i) hn)⟩))
theorem cd_ydump {post : Int32 → SY → Prop} {d : Nat} (hd : d < 2) (hp : post 1 (y_made, y_blocks, y_edges, y_paths, y_many, y_lastX, y_lastY, y_lastBlocks, y_op, y_number, y_kind, y_target, y_from, y_to, y_exit, y_weight, y_firstEdge, y_tree, y_back, y_row, y_length, (cd_fo (cd_fo y_gone (37 + 37 * d) 37 y_gone) 0 37 (fun _ => 0)), (cd_fo (cd_fo y_done (12 + 12 * d) 12 y_done) 0 12 (fun _ => 0)), (cd_fo (cd_fo y_went (300 + 300 * d) 300 y_went) 0 300 (fun _ => 0)), (upd (upd y_cut (1 + d) (y_cut 0)) 0 0), (upd y_kept d 1), y_mark, y_way, y_tried, y_stack)) : ∃ n, wY_dump_20 post (nI d) y_made y_blocks y_edges y_paths y_many y_lastX y_lastY y_lastBlocks n 0 y_op y_number y_kind y_target y_from y_to y_exit y_weight y_firstEdge y_tree y_back y_row y_length y_gone y_done y_went y_cut y_kept y_mark y_way y_tried y_stack := by
  have e1 : ∀ i : Nat, 37 + 37 * nI d + nI i = nI (37 + 37 * d + i) := fun i => by rw [show (37 : Int32) = nI 37 from rfl, pk_mul, nI_add, nI_add]
  have e2 : ∀ i : Nat, 12 + 12 * nI d + nI i = nI (12 + 12 * d + i) := fun i => by rw [show (12 : Int32) = nI 12 from rfl, pk_mul, nI_add, nI_add]
  have e3 : ∀ i : Nat, 300 + 300 * nI d + nI i = nI (300 + 300 * d + i) := fun i => by rw [show (300 : Int32) = nI 300 from rfl, pk_mul, nI_add, nI_add]
  have e4 : 1 + nI d = nI (1 + d) := nI_add 1 d
  exact cd_loop (fun n i => wY_dump_20 post (nI d) y_made y_blocks y_edges y_paths y_many y_lastX y_lastY y_lastBlocks n (nI i) y_op y_number y_kind y_target y_from y_to y_exit y_weight y_firstEdge y_tree y_back y_row y_length (cd_fo y_gone (37 + 37 * d) i y_gone) y_done y_went y_cut y_kept y_mark y_way y_tried y_stack) 37
    (fun n => pk_le 37 37 (fun _ => 
      cd_loop (fun n i => wY_dump_54 post (nI d) y_made y_blocks y_edges y_paths y_many y_lastX y_lastY y_lastBlocks n (nI i) y_op y_number y_kind y_target y_from y_to y_exit y_weight y_firstEdge y_tree y_back y_row y_length (cd_fo y_gone (37 + 37 * d) 37 y_gone) (cd_fo y_done (12 + 12 * d) i y_done) y_went y_cut y_kept y_mark y_way y_tried y_stack) 12
        (fun n => pk_le 12 12 (fun _ => 
          cd_loop (fun n i => wY_dump_88 post (nI d) y_made y_blocks y_edges y_paths y_many y_lastX y_lastY y_lastBlocks n (nI i) y_op y_number y_kind y_target y_from y_to y_exit y_weight y_firstEdge y_tree y_back y_row y_length (cd_fo y_gone (37 + 37 * d) 37 y_gone) (cd_fo y_done (12 + 12 * d) 12 y_done) (cd_fo y_went (300 + 300 * d) i y_went) y_cut y_kept y_mark y_way y_tried y_stack) 300
            (fun n => pk_le 300 300 (fun _ => ⟨pk_in (1 + d) 3 (by omega) e4, nm_r (congrArg (fun q => upd y_cut q (y_cut 0)) (pk_cl (1 + d) e4)) ⟨pk_in d 2 hd, nm_r (congrArg (fun q => upd y_kept q 1) (cd_cl (by omega))) (cd_yempty hp)⟩⟩) (fun h => absurd h (by omega)))
            (fun n i hi hn => pk_le 300 i (fun h => absurd h (by omega)) (fun h => ⟨pk_in i 900 (by omega), pk_in (300 + 300 * d + i) 900 (by omega) (e3 i), nm_r (cd_fo_u (e3 i) (by omega) (by rw [cd_cl (by omega), cd_fo_out (by omega)])) (nm_r (nI_1 i) hn)⟩)))
          (fun h => absurd h (by omega)))
        (fun n i hi hn => pk_le 12 i (fun h => absurd h (by omega)) (fun h => ⟨pk_in i 36 (by omega), pk_in (12 + 12 * d + i) 36 (by omega) (e2 i), nm_r (cd_fo_u (e2 i) (by omega) (by rw [cd_cl (by omega), cd_fo_out (by omega)])) (nm_r (nI_1 i) hn)⟩)))
      (fun h => absurd h (by omega)))
    (fun n i hi hn => pk_le 37 i (fun h => absurd h (by omega)) (fun h => ⟨pk_in i 111 (by omega), pk_in (37 + 37 * d + i) 111 (by omega) (e1 i), nm_r (cd_fo_u (e1 i) (by omega) (by rw [cd_cl (by omega), cd_fo_out (by omega)])) (nm_r (nI_1 i) hn)⟩))
theorem cd_ymerge {post : Int32 → SY → Prop} {d : Nat} (hd : d < 2) (hp : post 1 (y_made, y_blocks, y_edges, y_paths, y_many, y_lastX, y_lastY, y_lastBlocks, y_op, y_number, y_kind, y_target, y_from, y_to, y_exit, y_weight, y_firstEdge, y_tree, y_back, y_row, y_length, (cd_fo y_gone 0 37 (fun i => y_gone i + y_gone (37 + 37 * d + i))), (cd_fo y_done 0 12 (fun i => y_done i + y_done (12 + 12 * d + i))), (cd_fo y_went 0 300 (fun i => y_went i + y_went (300 + 300 * d + i))), (upd y_cut 0 (y_cut 0 + y_cut (1 + d))), y_kept, y_mark, y_way, y_tried, y_stack)) : ∃ n, wY_merge_56 post (nI d) y_made y_blocks y_edges y_paths y_many y_lastX y_lastY y_lastBlocks n 0 y_op y_number y_kind y_target y_from y_to y_exit y_weight y_firstEdge y_tree y_back y_row y_length y_gone y_done y_went y_cut y_kept y_mark y_way y_tried y_stack := by
  have e1 : ∀ i : Nat, 37 + 37 * nI d + nI i = nI (37 + 37 * d + i) := fun i => by rw [show (37 : Int32) = nI 37 from rfl, pk_mul, nI_add, nI_add]
  have e2 : ∀ i : Nat, 12 + 12 * nI d + nI i = nI (12 + 12 * d + i) := fun i => by rw [show (12 : Int32) = nI 12 from rfl, pk_mul, nI_add, nI_add]
  have e3 : ∀ i : Nat, 300 + 300 * nI d + nI i = nI (300 + 300 * d + i) := fun i => by rw [show (300 : Int32) = nI 300 from rfl, pk_mul, nI_add, nI_add]
  have e4 : 1 + nI d = nI (1 + d) := nI_add 1 d
  exact cd_loop (fun n i => wY_merge_56 post (nI d) y_made y_blocks y_edges y_paths y_many y_lastX y_lastY y_lastBlocks n (nI i) y_op y_number y_kind y_target y_from y_to y_exit y_weight y_firstEdge y_tree y_back y_row y_length (cd_fo y_gone 0 i (fun i => y_gone i + y_gone (37 + 37 * d + i))) y_done y_went y_cut y_kept y_mark y_way y_tried y_stack) 37
    (fun n => pk_le 37 37 (fun _ => 
      cd_loop (fun n i => wY_merge_93 post (nI d) y_made y_blocks y_edges y_paths y_many y_lastX y_lastY y_lastBlocks n (nI i) y_op y_number y_kind y_target y_from y_to y_exit y_weight y_firstEdge y_tree y_back y_row y_length (cd_fo y_gone 0 37 (fun i => y_gone i + y_gone (37 + 37 * d + i))) (cd_fo y_done 0 i (fun i => y_done i + y_done (12 + 12 * d + i))) y_went y_cut y_kept y_mark y_way y_tried y_stack) 12
        (fun n => pk_le 12 12 (fun _ => 
          cd_loop (fun n i => wY_merge_130 post (nI d) y_made y_blocks y_edges y_paths y_many y_lastX y_lastY y_lastBlocks n (nI i) y_op y_number y_kind y_target y_from y_to y_exit y_weight y_firstEdge y_tree y_back y_row y_length (cd_fo y_gone 0 37 (fun i => y_gone i + y_gone (37 + 37 * d + i))) (cd_fo y_done 0 12 (fun i => y_done i + y_done (12 + 12 * d + i))) (cd_fo y_went 0 i (fun i => y_went i + y_went (300 + 300 * d + i))) y_cut y_kept y_mark y_way y_tried y_stack) 300
            (fun n => pk_le 300 300 (fun _ => ⟨pk_in (1 + d) 3 (by omega) e4, nm_r (congrArg (fun q => upd y_cut 0 (y_cut 0 + y_cut q)) (pk_cl (1 + d) e4)) hp⟩) (fun h => absurd h (by omega)))
            (fun n i hi hn => pk_le 300 i (fun h => absurd h (by omega)) (fun h => ⟨pk_in i 900 (by omega), pk_in (300 + 300 * d + i) 900 (by omega) (e3 i), pk_in i 900 (by omega), nm_r (cd_fo_z (by omega) (by rw [e3, cd_cl (by omega), cd_cl (by omega), cd_fo_out (by omega), cd_fo_out (by omega)])) (nm_r (nI_1 i) hn)⟩)))
          (fun h => absurd h (by omega)))
        (fun n i hi hn => pk_le 12 i (fun h => absurd h (by omega)) (fun h => ⟨pk_in i 36 (by omega), pk_in (12 + 12 * d + i) 36 (by omega) (e2 i), pk_in i 36 (by omega), nm_r (cd_fo_z (by omega) (by rw [e2, cd_cl (by omega), cd_cl (by omega), cd_fo_out (by omega), cd_fo_out (by omega)])) (nm_r (nI_1 i) hn)⟩)))
      (fun h => absurd h (by omega)))
    (fun n i hi hn => pk_le 37 i (fun h => absurd h (by omega)) (fun h => ⟨pk_in i 111 (by omega), pk_in (37 + 37 * d + i) 111 (by omega) (e1 i), pk_in i 111 (by omega), nm_r (cd_fo_z (by omega) (by rw [e1, cd_cl (by omega), cd_cl (by omega), cd_fo_out (by omega), cd_fo_out (by omega)])) (nm_r (nI_1 i) hn)⟩))
end
/-- counts of zero -/
theorem cd_C0 {mn : Int32} {cn gone done went cut cut0 : Nat → Int32} : cd_C mn (cd_fo cn 0 350 (fun _ => 0)) (cd_fo gone 0 37 (fun _ => 0)) (cd_fo done 0 12 (fun _ => 0)) (cd_fo went 0 300 (fun _ => 0)) (upd cut 0 0) := by
  refine ⟨fun e he => ?_, fun b hb => ?_, fun _ p hp => ?_, ?_⟩
  · rw [cd_fo_in (by omega) (by omega), cd_fo_in (by omega) (by omega)]
  · rw [cd_fo_in (by omega) (by omega), cd_fo_in (by omega) (by omega)]
  · rw [cd_fo_in (by omega) (by omega), cd_fo_in (by omega) (by omega)]
  · rw [cd_fo_in (by omega) (by omega)]; exact pk_us
theorem cd_Kdump {mn : Int32} {ne d : Nat} {cn dm dk gone done went cut : Nat → Int32} (hne : 0 < ne) (hd : d < 2) (hC : cd_C mn cn gone done went cut) (hK : cd_K mn ne dm dk gone done went cut) :
    cd_K mn ne (cd_fo dm (350 * d) 350 cn) (upd dk d 1) (cd_fo (cd_fo gone (37 + 37 * d) 37 gone) 0 37 (fun _ => 0)) (cd_fo (cd_fo done (12 + 12 * d) 12 done) 0 12 (fun _ => 0)) (cd_fo (cd_fo went (300 + 300 * d) 300 went) 0 300 (fun _ => 0)) (upd (upd cut (1 + d) (cut 0)) 0 0) := by
  intro c hc hk
  by_cases e : c = d
  · subst e
    refine ⟨hne, fun e he => ?_, fun b hb => ?_, fun hm p hp => ?_, ?_⟩
    · rw [cd_fo_out (by omega), cd_fo_k he, cd_fo_k (by omega)]; exact hC.1 e he
    · rw [cd_fo_out (by omega), cd_fo_k hb, cd_fo_k (by omega)]; exact hC.2.1 b hb
    · rw [cd_fo_out (by omega), cd_fo_k hp, cd_fo_k (by omega)]; exact hC.2.2.1 hm p hp
    · rw [pk_un (by omega), pk_us, cd_fo_k (by omega)]; exact hC.2.2.2
  · rw [pk_un e] at hk
    obtain ⟨k0, k1, k2, k3, k4⟩ := hK c hc hk
    refine ⟨hne, fun e he => ?_, fun b hb => ?_, fun hm p hp => ?_, ?_⟩
    · rw [cd_fo_out (by omega), cd_fo_out (by omega), cd_fo_out (by omega)]; exact k1 e he
    · rw [cd_fo_out (by omega), cd_fo_out (by omega), cd_fo_out (by omega)]; exact k2 b hb
    · rw [cd_fo_out (by omega), cd_fo_out (by omega), cd_fo_out (by omega)]; exact k3 hm p hp
    · rw [pk_un (by omega), pk_un (by omega), cd_fo_out (by omega)]; exact k4
theorem cd_Cmerge {mn : Int32} {ne d : Nat} {cn dm dk gone done went cut : Nat → Int32} (hd : d < 2) (hk : dk d ≠ 0) (hC : cd_C mn cn gone done went cut) (hK : cd_K mn ne dm dk gone done went cut) :
    cd_C mn (cd_fo cn 0 350 (fun i => cn i + dm (350 * d + i))) (cd_fo gone 0 37 (fun i => gone i + gone (37 + 37 * d + i))) (cd_fo done 0 12 (fun i => done i + done (12 + 12 * d + i))) (cd_fo went 0 300 (fun i => went i + went (300 + 300 * d + i))) (upd cut 0 (cut 0 + cut (1 + d))) := by
  obtain ⟨k0, k1, k2, k3, k4⟩ := hK d hd hk
  refine ⟨fun e he => ?_, fun b hb => ?_, fun hm p hp => ?_, ?_⟩
  · rw [cd_fo_in (by omega) (by omega), cd_fo_in (by omega) (by omega)]
    show gone e + gone (37 + 37 * d + e) = cn e + dm (350 * d + e)
    rw [hC.1 e he, k1 e he]
  · rw [cd_fo_in (by omega) (by omega), cd_fo_in (by omega) (by omega)]
    show done b + done (12 + 12 * d + b) = cn (37 + b) + dm (350 * d + (37 + b))
    rw [hC.2.1 b hb, k2 b hb]
  · rw [cd_fo_in (by omega) (by omega), cd_fo_in (by omega) (by omega)]
    show went p + went (300 + 300 * d + p) = cn (49 + p) + dm (350 * d + (49 + p))
    rw [hC.2.2.1 hm p hp, k3 hm p hp]
  · rw [cd_fo_in (by omega) (by omega), pk_us]
    show cut 0 + cut (1 + d) = cn 349 + dm (350 * d + 349)
    rw [hC.2.2.2, k4]
theorem cd_Kmerge {mn : Int32} {ne d : Nat} {dm dk gone done went cut : Nat → Int32} {f g h : Nat → Int32} {z : Int32} (hK : cd_K mn ne dm dk gone done went cut) :
    cd_K mn ne dm dk (cd_fo gone 0 37 f) (cd_fo done 0 12 g) (cd_fo went 0 300 h) (upd cut 0 z) := by
  intro c hc hk
  obtain ⟨k0, k1, k2, k3, k4⟩ := hK c hc hk
  refine ⟨k0, fun e he => ?_, fun b hb => ?_, fun hm p hp => ?_, ?_⟩
  · rw [cd_fo_out (by omega)]; exact k1 e he
  · rw [cd_fo_out (by omega)]; exact k2 b hb
  · rw [cd_fo_out (by omega)]; exact k3 hm p hp
  · rw [pk_un (by omega)]; exact k4
theorem i_vc_dump {k : Nat} {u : SX} {v : SY} (I : i_Rel k u v) (hk : k + 6 ≤ 3072) (v1 : Int32) : wpX_dump (fun r u' => wpY_dump (fun r' v' => r' = r ∧ i_Rel (k + 6) u' v') v v1) u v1 := by
  have I' := i_up I
  obtain ⟨x_blocks, x_builtBlocks, x_edges, x_paths, x_runX, x_runY, x_runDone, x_ops, x_operands, x_kinds, x_targets, x_builtOps, x_builtOperands, x_builtKinds, x_firstEdge, x_edgeFrom, x_edgeExit, x_edgeTo, x_edgeWeight, x_inTree, x_isBack, x_beginsPaths, x_firstPath, x_pathsFrom, x_pathsBefore, x_counts, x_dumped, x_dumpKept, x_looked, x_joined, x_met, x_nextExit, x_way⟩ := u
  obtain ⟨y_made, y_blocks, y_edges, y_paths, y_many, y_lastX, y_lastY, y_lastBlocks, y_op, y_number, y_kind, y_target, y_from, y_to, y_exit, y_weight, y_firstEdge, y_tree, y_back, y_row, y_length, y_gone, y_done, y_went, y_cut, y_kept, y_mark, y_way, y_tried, y_stack⟩ := v
  obtain ⟨n, nb, ne, np, rfl, rfl, rfl, rfl, rfl, rfl, rfl, rfl, rfl, rfl, rfl, rfl, rfl, rfl, rfl, rfl, rfl, rfl, hD, hB, hC, hK, hP⟩ := I
  have hne := cd_ne hB
  unfold wpX_dump wpY_dump
  dsimp only
  refine br_c (fun h => ?_) (fun h => ?_)
  · refine cd_yin (n := 2) rfl (by omega) (fun _ => br_t rfl ⟨rfl, I'⟩) (fun t ht e => ?_)
    subst e; exact absurd h (nI_pos (by omega))
  obtain ⟨d, hd, rfl⟩ := nI_of h
  refine pk_le 2 d (fun h2 => ?_) (fun h2 => ?_)
  · refine cd_yin (n := 2) rfl (by omega) (fun _ => br_t rfl ⟨rfl, I'⟩) (fun t ht e => ?_)
    rw [nI_eq hd (by omega)] at e; omega
  refine pk_eq nb 0 (fun hz => ?_) (fun hz => ?_)
  · exact cd_yin (n := 2) rfl (by omega) (fun _ => br_t rfl ⟨rfl, I'⟩) (fun t ht e => br_f (by decide) (pk_eq ne 0 (fun _ => ⟨rfl, I'⟩) (fun z => absurd z (by omega))))
  refine nm_r (e' := nI (350 * d)) (by rw [show (350 : Int32) = nI 350 from rfl, pk_mul, Nat.mul_comm]) (cd_xdump h2 ?_)
  refine cd_yin (n := 2) rfl (by omega) (fun hc => absurd rfl (hc d h2)) (fun t ht e => br_f (by decide) (pk_eq ne 0 (fun z => absurd z (by omega)) (fun _ => cd_ydump h2 ⟨rfl, ?_⟩)))
  exact cd_mk n nb ne np hD hB (cd_C0 (cut0 := y_cut)) (cd_Kdump (by omega) h2 hC hK) hP
theorem i_vc_merge {k : Nat} {u : SX} {v : SY} (I : i_Rel k u v) (hk : k + 6 ≤ 3072) (v1 : Int32) : wpX_merge (fun r u' => wpY_merge (fun r' v' => r' = r ∧ i_Rel (k + 6) u' v') v v1) u v1 := by
  have I' := i_up I
  obtain ⟨x_blocks, x_builtBlocks, x_edges, x_paths, x_runX, x_runY, x_runDone, x_ops, x_operands, x_kinds, x_targets, x_builtOps, x_builtOperands, x_builtKinds, x_firstEdge, x_edgeFrom, x_edgeExit, x_edgeTo, x_edgeWeight, x_inTree, x_isBack, x_beginsPaths, x_firstPath, x_pathsFrom, x_pathsBefore, x_counts, x_dumped, x_dumpKept, x_looked, x_joined, x_met, x_nextExit, x_way⟩ := u
  obtain ⟨y_made, y_blocks, y_edges, y_paths, y_many, y_lastX, y_lastY, y_lastBlocks, y_op, y_number, y_kind, y_target, y_from, y_to, y_exit, y_weight, y_firstEdge, y_tree, y_back, y_row, y_length, y_gone, y_done, y_went, y_cut, y_kept, y_mark, y_way, y_tried, y_stack⟩ := v
  obtain ⟨n, nb, ne, np, rfl, rfl, rfl, rfl, rfl, rfl, rfl, rfl, rfl, rfl, rfl, rfl, rfl, rfl, rfl, rfl, rfl, rfl, hD, hB, hC, hK, hP⟩ := I
  have hne := cd_ne hB
  unfold wpX_merge wpX_runs wpY_merge
  dsimp only
  refine br_c (fun h => ?_) (fun h => ?_)
  · refine cd_yin (n := 2) rfl (by omega) (fun _ => br_t rfl ⟨rfl, I'⟩) (fun t ht e => ?_)
    subst e; exact absurd h (nI_pos (by omega))
  obtain ⟨d, hd, rfl⟩ := nI_of h
  have cd := nI_clamp hd
  refine pk_le 2 d (fun h2 => ?_) (fun h2 => ⟨pk_in d 2 h2, ?_⟩)
  · refine cd_yin (n := 2) rfl (by omega) (fun _ => br_t rfl ⟨rfl, I'⟩) (fun t ht e => ?_)
    rw [nI_eq hd (by omega)] at e; omega
  refine br_c (fun hz => ?_) (fun hz => ?_)
  · exact cd_yin (n := 2) rfl (by omega) (fun _ => br_t rfl ⟨rfl, I'⟩) (fun t ht e => br_f (by decide) ⟨pk_in d 2 h2, br_t hz ⟨rfl, I'⟩⟩)
  have hz' : x_dumpKept d ≠ 0 := by rw [cd] at hz; exact hz
  obtain ⟨k0, k1, k2, k3, k4⟩ := hK d h2 hz'
  obtain ⟨m, rfl⟩ : ∃ m, ne = m + 1 := ⟨ne - 1, by omega⟩
  refine nm_r (e' := nI (350 * d)) (by rw [show (350 : Int32) = nI 350 from rfl, pk_mul, Nat.mul_comm]) ?_
  have e1 : nI (350 * d) + nI (m + 1) - 1 = nI (350 * d + m) := by rw [nI_add, ← Nat.add_assoc, nI_pred]
  have e2 : 36 + 37 * nI d + nI (m + 1) = nI (37 + 37 * d + m) := by
    rw [show (37 : Int32) = nI 37 from rfl, show (36 : Int32) = nI 36 from rfl, pk_mul, nI_add, nI_add]
    exact congrArg nI (by omega)
  have e3 : nI (m + 1) - 1 = nI m := nI_pred m
  refine pk_eq (m + 1) 0 (fun z => absurd z (by omega)) (fun _ => ⟨pk_in m 350 (by omega) e3, pk_in (350 * d + m) 700 (by omega) e1, ?_⟩)
  have E : x_counts (nI (m + 1) - 1).toNatClampNeg + x_dumped (nI (350 * d) + nI (m + 1) - 1).toNatClampNeg = y_gone (nI (m + 1) - 1).toNatClampNeg + y_gone (36 + 37 * nI d + nI (m + 1)).toNatClampNeg := by
    rw [e1, e2, e3, cd_cl (by omega), cd_cl (by omega), cd_cl (by omega), hC.1 m (by omega), k1 m (by omega)]
  refine br_c (fun hs => cd_xmerge h2 ?_) (fun hs => ?_)
  · rw [E] at hs
    refine cd_yin (n := 2) rfl (by omega) (fun hc => absurd rfl (hc d h2)) (fun t ht e => br_f (by decide) ⟨pk_in d 2 h2, br_f hz ⟨pk_in m 111 (by omega) e3, pk_in (37 + 37 * d + m) 111 (by omega) e2, br_t hs (cd_ymerge h2 ⟨rfl, ?_⟩)⟩⟩)
    exact cd_mk n nb (m + 1) np hD hB (cd_Cmerge h2 hz' hC hK) (cd_Kmerge (d := d) hK) hP
  · rw [E] at hs
    exact cd_yin (n := 2) rfl (by omega) (fun hc => absurd rfl (hc d h2)) (fun t ht e => br_f (by decide) ⟨pk_in d 2 h2, br_f hz ⟨pk_in m 111 (by omega) e3, pk_in (37 + 37 * d + m) 111 (by omega) e2, br_f hs ⟨rfl, I'⟩⟩⟩)
