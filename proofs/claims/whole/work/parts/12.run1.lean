/-- what a block's op does -/
def cd_op (p a x y : Int32) : Int32 × Int32 := if p = 1 then (x + a, y) else if p = 2 then (x, y + a) else if p = 3 then (y, y) else if p = 4 then (x, y - x) else if p = 5 then (a, y) else if p = 6 then (y, x) else if p = 7 then (x, y * a) else (x, y)
theorem cd_op0 {p a x y : Int32} (h1 : ¬ p = 1) (h2 : ¬ p = 2) (h3 : ¬ p = 3) (h4 : ¬ p = 4) (h5 : ¬ p = 5) (h6 : ¬ p = 6) (h7 : ¬ p = 7) : cd_op p a x y = (x, y) := by
  unfold cd_op
  rw [if_neg h1, if_neg h2, if_neg h3, if_neg h4, if_neg h5, if_neg h6, if_neg h7]
section
variable {x_blocks x_builtBlocks x_edges x_paths x_runX x_runY x_runDone : Int32} {x_ops x_operands x_kinds x_targets x_builtOps x_builtOperands x_builtKinds x_firstEdge x_edgeFrom x_edgeExit x_edgeTo x_edgeWeight x_inTree x_isBack x_beginsPaths x_firstPath x_pathsFrom x_pathsBefore x_counts x_dumped x_dumpKept x_looked x_joined x_met x_nextExit x_way : Nat → Int32} {y_made y_blocks y_edges y_paths y_many y_lastX y_lastY y_lastBlocks : Int32} {y_op y_number y_kind y_target y_from y_to y_exit y_weight y_firstEdge y_tree y_back y_row y_length y_gone y_done y_went y_cut y_kept y_mark y_way y_tried y_stack : Nat → Int32}
theorem cd_xop {post : SX → Prop} {p a : Int32} (hp : post (x_blocks, x_builtBlocks, x_edges, x_paths, ((cd_op p a x_runX x_runY).1), ((cd_op p a x_runX x_runY).2), x_runDone, x_ops, x_operands, x_kinds, x_targets, x_builtOps, x_builtOperands, x_builtKinds, x_firstEdge, x_edgeFrom, x_edgeExit, x_edgeTo, x_edgeWeight, x_inTree, x_isBack, x_beginsPaths, x_firstPath, x_pathsFrom, x_pathsBefore, x_counts, x_dumped, x_dumpKept, x_looked, x_joined, x_met, x_nextExit, x_way)) : wpX_doOp post (x_blocks, x_builtBlocks, x_edges, x_paths, x_runX, x_runY, x_runDone, x_ops, x_operands, x_kinds, x_targets, x_builtOps, x_builtOperands, x_builtKinds, x_firstEdge, x_edgeFrom, x_edgeExit, x_edgeTo, x_edgeWeight, x_inTree, x_isBack, x_beginsPaths, x_firstPath, x_pathsFrom, x_pathsBefore, x_counts, x_dumped, x_dumpKept, x_looked, x_joined, x_met, x_nextExit, x_way) p a := by
  unfold wpX_doOp
  refine br_c (fun h => ?_) (fun h => br_c (fun g => ?_) (fun g => br_c (fun h1 => ?_) (fun h1 => br_c (fun h2 => ?_) (fun h2 => br_c (fun h3 => ?_) (fun h3 => br_c (fun h4 => ?_) (fun h4 => br_c (fun h5 => ?_) (fun h5 => br_c (fun h6 => ?_) (fun h6 => br_c (fun h7 => ?_) (fun h7 => trivial)))))))))
  · rw [cd_op0 (fun e => by subst e; exact absurd h (by decide)) (fun e => by subst e; exact absurd h (by decide)) (fun e => by subst e; exact absurd h (by decide)) (fun e => by subst e; exact absurd h (by decide)) (fun e => by subst e; exact absurd h (by decide)) (fun e => by subst e; exact absurd h (by decide)) (fun e => by subst e; exact absurd h (by decide))] at hp
    exact hp
  · rw [cd_op0 (fun e => by subst e; exact absurd g (by decide)) (fun e => by subst e; exact absurd g (by decide)) (fun e => by subst e; exact absurd g (by decide)) (fun e => by subst e; exact absurd g (by decide)) (fun e => by subst e; exact absurd g (by decide)) (fun e => by subst e; exact absurd g (by decide)) (fun e => by subst e; exact absurd g (by decide))] at hp
    exact hp
  · subst h1; exact nm_e hp
  · subst h2; exact nm_e hp
  · subst h3; exact hp
  · subst h4; exact nm_e hp
  · subst h5; exact hp
  · subst h6; exact hp
  · subst h7; exact nm_e hp
theorem cd_yop {post : SY → Prop} {p a : Int32} (hp : post (y_made, y_blocks, y_edges, y_paths, y_many, ((cd_op p a y_lastX y_lastY).1), ((cd_op p a y_lastX y_lastY).2), y_lastBlocks, y_op, y_number, y_kind, y_target, y_from, y_to, y_exit, y_weight, y_firstEdge, y_tree, y_back, y_row, y_length, y_gone, y_done, y_went, y_cut, y_kept, y_mark, y_way, y_tried, y_stack)) : wpY_work post (y_made, y_blocks, y_edges, y_paths, y_many, y_lastX, y_lastY, y_lastBlocks, y_op, y_number, y_kind, y_target, y_from, y_to, y_exit, y_weight, y_firstEdge, y_tree, y_back, y_row, y_length, y_gone, y_done, y_went, y_cut, y_kept, y_mark, y_way, y_tried, y_stack) p a := by
  by_cases h1 : p = 1
  · subst h1
    exact br_t rfl (nm_e (br_f (by decide) (br_f (by decide) (br_f (by decide) (br_f (by decide) (br_f (by decide) (br_f (by decide) (br_f (by decide) hp))))))))
  by_cases h2 : p = 2
  · subst h2
    exact br_f (by decide) (br_t rfl (nm_e (br_f (by decide) (br_f (by decide) (br_f (by decide) (br_f (by decide) (br_f (by decide) (br_f (by decide) hp))))))))
  by_cases h3 : p = 3
  · subst h3
    exact br_f (by decide) (br_f (by decide) (br_t rfl (br_f (by decide) (br_f (by decide) (br_f (by decide) (br_f (by decide) hp))))))
  by_cases h4 : p = 4
  · subst h4
    exact br_f (by decide) (br_f (by decide) (br_f (by decide) (br_f (by decide) (br_t rfl (nm_e (br_f (by decide) (br_f (by decide) (br_f (by decide) hp))))))))
  by_cases h5 : p = 5
  · subst h5
    exact br_f (by decide) (br_f (by decide) (br_f (by decide) (br_f (by decide) (br_f (by decide) (br_t rfl (br_f (by decide) (br_f (by decide) hp)))))))
  by_cases h6 : p = 6
  · subst h6
    exact br_f (by decide) (br_f (by decide) (br_f (by decide) (br_t rfl (br_f (by decide) (br_f (by decide) (br_t rfl (br_f (by decide) hp)))))))
  by_cases h7 : p = 7
  · subst h7
    exact br_f (by decide) (br_f (by decide) (br_f (by decide) (br_f (by decide) (br_f (by decide) (br_f (by decide) (br_f (by decide) (br_t rfl (nm_e hp))))))))
  rw [cd_op0 h1 h2 h3 h4 h5 h6 h7] at hp
  exact br_f h1 (br_f h2 (br_f h3 (br_f h6 (br_f h4 (br_f h5 (br_f h6 (br_f h7 hp)))))))
theorem cd_xdo {post : SX → Prop} {b : Nat} (hb : b < 12) (hp : post (x_blocks, x_builtBlocks, x_edges, x_paths, ((cd_op (x_builtOps b) (x_builtOperands b) x_runX x_runY).1), ((cd_op (x_builtOps b) (x_builtOperands b) x_runX x_runY).2), (x_runDone + 1), x_ops, x_operands, x_kinds, x_targets, x_builtOps, x_builtOperands, x_builtKinds, x_firstEdge, x_edgeFrom, x_edgeExit, x_edgeTo, x_edgeWeight, x_inTree, x_isBack, x_beginsPaths, x_firstPath, x_pathsFrom, x_pathsBefore, (upd x_counts (37 + b) (x_counts (37 + b) + 1)), x_dumped, x_dumpKept, x_looked, x_joined, x_met, x_nextExit, x_way)) : wpX_doBlock post (x_blocks, x_builtBlocks, x_edges, x_paths, x_runX, x_runY, x_runDone, x_ops, x_operands, x_kinds, x_targets, x_builtOps, x_builtOperands, x_builtKinds, x_firstEdge, x_edgeFrom, x_edgeExit, x_edgeTo, x_edgeWeight, x_inTree, x_isBack, x_beginsPaths, x_firstPath, x_pathsFrom, x_pathsBefore, x_counts, x_dumped, x_dumpKept, x_looked, x_joined, x_met, x_nextExit, x_way) (nI b) := by
  have c : (37 : Int32) + nI b = nI (37 + b) := nI_add 37 b
  unfold wpX_doBlock
  dsimp only
  rw [cd_cl (by omega)]
  refine ⟨pk_in b 12 hb, pk_in b 12 hb, cd_xop ⟨pk_in (37 + b) 350 (by omega) c, pk_in (37 + b) 350 (by omega) c, ?_⟩⟩
  rw [c, cd_cl (by omega)]
  exact nm_e (nm_e hp)
end
/-- the exit that is chosen -/
def cd_cx (k x y : Int32) : Nat := if k = 2 then (if y ≤ x then 1 else 0) else if k = 3 then (if (x &&& 1) = 1 then 0 else 1) else if k = 4 then (if x = 0 then 0 else 1) else if k = 5 then (x.toInt % 3).toNat else 0
theorem cd_tm (x d : Int) : (0 ≤ x → x.tmod d = x % d) ∧ (x < 0 → x.tmod d = -((-x) % d)) := ⟨Int.tmod_eq_emod_of_nonneg, fun q => by rw [← Int.tmod_eq_emod_of_nonneg (by omega), Int.neg_tmod, Int.neg_neg]⟩
theorem cd_rem3 (x : Int32) : (0 ≤ x - x / 3 * 3 → x - x / 3 * 3 = nI (x.toInt % 3).toNat) ∧ (¬ 0 ≤ x - x / 3 * 3 → x - x / 3 * 3 + 3 = nI (x.toInt % 3).toNat) ∧ (x - x / 3 * 3 + 3) - (x - x / 3 * 3 + 3) / 3 * 3 = nI (x.toInt % 3).toNat := by
  have h := rem_toInt x 3
  have h2 := rem_toInt (x - x / 3 * 3 + 3) 3
  generalize x - x / 3 * 3 = r at *
  have e3 : (3 : Int32).toInt = 3 := by decide
  have e0 : (0 : Int32).toInt = 0 := by decide
  rw [e3] at h h2
  have t := cd_tm x.toInt 3
  have hr : -2 ≤ r.toInt ∧ r.toInt ≤ 2 ∧ (0 ≤ r.toInt → r.toInt = x.toInt % 3) ∧ (r.toInt < 0 → r.toInt + 3 = x.toInt % 3) := by
    rw [h]
    by_cases g : 0 ≤ x.toInt
    · rw [t.1 g]; omega
    · rw [t.2 (by omega)]; omega
  have ha : (r + 3).toInt = r.toInt + 3 := by
    rw [Int32.toInt_add, e3]
    exact Int.bmod_eq_of_le (by omega) (by omega)
  have hn : (nI (x.toInt % 3).toNat).toInt = x.toInt % 3 := by
    rw [nI_toInt (by omega)]
    omega
  refine ⟨fun g => ?_, fun g => ?_, ?_⟩
  · rw [Int32.le_iff_toInt_le, e0] at g
    apply Int32.toInt_inj.mp
    rw [hn]; exact hr.2.2.1 g
  · rw [Int32.le_iff_toInt_le, e0] at g
    apply Int32.toInt_inj.mp
    rw [hn, ha]; exact hr.2.2.2 (by omega)
  · apply Int32.toInt_inj.mp
    rw [h2, hn, ha]
    rw [(cd_tm (r.toInt + 3) 3).1 (by omega)]
    omega
theorem cd_odd (x : Int32) : (x &&& 1) = 1 ↔ ¬ x - x / 2 * 2 = 0 := by
  have h := rem_toInt x 2
  have e2 : (2 : Int32).toInt = 2 := by decide
  have e0 : (0 : Int32).toInt = 0 := by decide
  have t := cd_tm x.toInt 2
  rw [e2] at h
  have hx : x.toInt = x.toBitVec.toInt := rfl
  have hc := BitVec.toInt_eq_toNat_cond x.toBitVec
  have hl := x.toBitVec.isLt
  rw [pk_and x 1 (by decide), ← Int32.toInt_inj (x := x - x / 2 * 2), h, e0, show (1 : Int32) = nI 1 from rfl, nI_eq (by omega) (by omega)]
  have hz : x.toInt.tmod 2 = 0 ↔ x.toInt % 2 = 0 := by
    by_cases g : 0 ≤ x.toInt
    · rw [t.1 g]
    · rw [t.2 (by omega)]; omega
  rw [hz, hx, hc]
  generalize x.toBitVec.toNat = q at *
  split <;> omega
theorem cd_cx_lt {k x y : Int32} (hk : ∃ j : Nat, j < 6 ∧ k = nI j) : cd_cx k x y < cd_ec k := by
  obtain ⟨j, hj, rfl⟩ := hk
  unfold cd_cx
  have r := cd_ec_r (nI j)
  by_cases h2 : nI j = 2
  · rw [if_pos h2, h2]
    have : cd_ec 2 = 2 := by decide
    split <;> omega
  rw [if_neg h2]
  by_cases h3 : nI j = 3
  · rw [if_pos h3, h3]
    have : cd_ec 3 = 2 := by decide
    split <;> omega
  rw [if_neg h3]
  by_cases h4 : nI j = 4
  · rw [if_pos h4, h4]
    have : cd_ec 4 = 2 := by decide
    split <;> omega
  rw [if_neg h4]
  by_cases h5 : nI j = 5
  · rw [if_pos h5, h5]
    have : cd_ec 5 = 3 := by decide
    omega
  rw [if_neg h5]
  omega
section
variable {x_blocks x_builtBlocks x_edges x_paths x_runX x_runY x_runDone : Int32} {x_ops x_operands x_kinds x_targets x_builtOps x_builtOperands x_builtKinds x_firstEdge x_edgeFrom x_edgeExit x_edgeTo x_edgeWeight x_inTree x_isBack x_beginsPaths x_firstPath x_pathsFrom x_pathsBefore x_counts x_dumped x_dumpKept x_looked x_joined x_met x_nextExit x_way : Nat → Int32} {y_made y_blocks y_edges y_paths y_many y_lastX y_lastY y_lastBlocks : Int32} {y_op y_number y_kind y_target y_from y_to y_exit y_weight y_firstEdge y_tree y_back y_row y_length y_gone y_done y_went y_cut y_kept y_mark y_way y_tried y_stack : Nat → Int32}
theorem cd_xcx {post : Int32 → Prop} {k : Int32} (hp : post (nI (cd_cx k x_runX x_runY))) : wpX_chosenExit post (x_blocks, x_builtBlocks, x_edges, x_paths, x_runX, x_runY, x_runDone, x_ops, x_operands, x_kinds, x_targets, x_builtOps, x_builtOperands, x_builtKinds, x_firstEdge, x_edgeFrom, x_edgeExit, x_edgeTo, x_edgeWeight, x_inTree, x_isBack, x_beginsPaths, x_firstPath, x_pathsFrom, x_pathsBefore, x_counts, x_dumped, x_dumpKept, x_looked, x_joined, x_met, x_nextExit, x_way) k := by
  unfold wpX_chosenExit
  unfold cd_cx at hp
  have C : ∀ {z : Int32}, ¬ z = 2 → ¬ z = 3 → ¬ z = 4 → ¬ z = 5 → k = z → post (nI (if k = 2 then (if x_runY ≤ x_runX then 1 else 0) else if k = 3 then (if (x_runX &&& 1) = 1 then 0 else 1) else if k = 4 then (if x_runX = 0 then 0 else 1) else if k = 5 then (x_runX.toInt % 3).toNat else 0)) → post 0 := by
    intro z g2 g3 g4 g5 e h
    subst e
    rw [if_neg g2, if_neg g3, if_neg g4, if_neg g5] at h
    exact h
  refine br_c (fun h => ?_) (fun h => br_c (fun g => ?_) (fun g => br_c (fun h2 => ?_) (fun h2 => br_c (fun h3 => ?_) (fun h3 => br_c (fun h4 => ?_) (fun h4 => br_c (fun h5 => ?_) (fun h5 => trivial))))))
  · exact C (fun e => by subst e; exact absurd h (by decide)) (fun e => by subst e; exact absurd h (by decide)) (fun e => by subst e; exact absurd h (by decide)) (fun e => by subst e; exact absurd h (by decide)) rfl hp
  · exact C (fun e => by subst e; exact absurd g (by decide)) (fun e => by subst e; exact absurd g (by decide)) (fun e => by subst e; exact absurd g (by decide)) (fun e => by subst e; exact absurd g (by decide)) rfl hp
  · rw [if_pos h2] at hp
    refine br_c (fun z => ?_) (fun z => ?_)
    · rw [if_pos z] at hp; exact hp
    · rw [if_neg z] at hp; exact hp
  · rw [if_neg h2, if_pos h3] at hp
    refine br_c (fun z => ?_) (fun z => ?_)
    · rw [if_pos z] at hp; exact hp
    · rw [if_neg z] at hp; exact hp
  · rw [if_neg h2, if_neg h3, if_pos h4] at hp
    refine br_c (fun z => ?_) (fun z => ?_)
    · rw [if_pos z] at hp; exact hp
    · rw [if_neg z] at hp; exact hp
  · rw [if_neg h2, if_neg h3, if_neg h4, if_pos h5] at hp
    obtain ⟨r1, r2, r3⟩ := cd_rem3 x_runX
    refine ⟨by decide, nm_e (br_c (fun z => ?_) (fun z => ?_))⟩
    · rw [r1 z]; exact hp
    · rw [r2 z]; exact hp
theorem cd_ycx {post : Int32 → Prop} {k x y : Int32} (hp : post (nI (cd_cx k x y))) : wpY_choose post k x y := by
  unfold wpY_choose
  unfold cd_cx at hp
  have C : ∀ {z : Int32}, ¬ z = 2 → ¬ z = 3 → ¬ z = 4 → ¬ z = 5 → k = z → post (nI (if k = 2 then (if y ≤ x then 1 else 0) else if k = 3 then (if (x &&& 1) = 1 then 0 else 1) else if k = 4 then (if x = 0 then 0 else 1) else if k = 5 then (x.toInt % 3).toNat else 0)) → post 0 := by
    intro z g2 g3 g4 g5 e h
    subst e
    rw [if_neg g2, if_neg g3, if_neg g4, if_neg g5] at h
    exact h
  refine br_c (fun h => ?_) (fun h => br_c (fun g => ?_) (fun g => br_c (fun h2 => ?_) (fun h2 => br_c (fun h3 => ?_) (fun h3 => br_c (fun h4 => ?_) (fun h4 => br_c (fun h5 => ?_) (fun h5 => trivial))))))
  · exact C (fun e => by subst e; exact absurd h (by decide)) (fun e => by subst e; exact absurd h (by decide)) (fun e => by subst e; exact absurd h (by decide)) (fun e => by subst e; exact absurd h (by decide)) rfl hp
  · exact C (fun e => by subst e; exact absurd g (by decide)) (fun e => by subst e; exact absurd g (by decide)) (fun e => by subst e; exact absurd g (by decide)) (fun e => by subst e; exact absurd g (by decide)) rfl hp
  · rw [if_pos h2] at hp
    refine br_c (fun z => ?_) (fun z => ?_)
    · rw [if_pos z] at hp; exact hp
    · rw [if_neg z] at hp; exact hp
  · rw [if_neg h2, if_pos h3] at hp
    refine ⟨by decide, br_c (fun z => ?_) (fun z => ?_)⟩
    · rw [if_neg (fun w => (cd_odd x).mp w z)] at hp; exact hp
    · rw [if_pos ((cd_odd x).mpr z)] at hp; exact hp
  · rw [if_neg h2, if_neg h3, if_pos h4] at hp
    refine br_c (fun z => ?_) (fun z => ?_)
    · rw [if_pos z] at hp; exact hp
    · rw [if_neg z] at hp; exact hp
  · rw [if_neg h2, if_neg h3, if_neg h4, if_pos h5] at hp
    obtain ⟨r1, r2, r3⟩ := cd_rem3 x
    refine ⟨by decide, by decide, ?_⟩
    rw [r3]; exact hp
/-- the reference counts the rows that hold the way -/
theorem cd_ycp29 {post : SY → Prop} {J : Int32 → (Nat → Int32) → (Nat → Int32) → (Nat → Int32) → (Nat → Int32) → (Nat → Int32) → (Nat → Int32) → (Nat → Int32) → (Nat → Int32) → (Nat → Int32) → (Nat → Int32) → (Nat → Int32) → (Nat → Int32) → (Nat → Int32) → (Nat → Int32) → (Nat → Int32) → (Nat → Int32) → (Nat → Int32) → (Nat → Int32) → (Nat → Int32) → (Nat → Int32) → (Nat → Int32) → (Nat → Int32) → Prop} {p : Nat} {l : List Nat} (hp : p < 300) (hl : l.length ≤ 12) (hw : ∀ i (h : i < l.length), y_way i = nI l[i])
    (h1 : cd_rw y_row y_length p l → J (nI (p + 1)) y_op y_number y_kind y_target y_from y_to y_exit y_weight y_firstEdge y_tree y_back y_row y_length y_gone y_done (upd y_went p (y_went p + 1)) y_cut y_kept y_mark y_way y_tried y_stack) (h0 : ¬ cd_rw y_row y_length p l → J (nI (p + 1)) y_op y_number y_kind y_target y_from y_to y_exit y_weight y_firstEdge y_tree y_back y_row y_length y_gone y_done y_went y_cut y_kept y_mark y_way y_tried y_stack) :
    ∀ d i, i + d = l.length → (y_length p = nI l.length → (∀ j (h : j < l.length), j < i → y_row (12 * p + j) = nI l[j]) → wY_countPath_29 post J (nI l.length) (nI p) y_made y_blocks y_edges y_paths y_many y_lastX y_lastY y_lastBlocks y_op y_number y_kind y_target y_from y_to y_exit y_weight y_firstEdge y_tree y_back y_row y_length y_gone y_done y_went y_cut y_kept y_mark y_way y_tried y_stack (d + 1) 1 (nI i)) ∧ (¬ cd_rw y_row y_length p l → wY_countPath_29 post J (nI l.length) (nI p) y_made y_blocks y_edges y_paths y_many y_lastX y_lastY y_lastBlocks y_op y_number y_kind y_target y_from y_to y_exit y_weight y_firstEdge y_tree y_back y_row y_length y_gone y_done y_went y_cut y_kept y_mark y_way y_tried y_stack (d + 1) 0 (nI i)) := by
  have cp := cd_cl (n := p) (by omega)
  have Z0 : ¬ cd_rw y_row y_length p l → wY_countPath_73 post J (nI l.length) (nI p) 0 y_made y_blocks y_edges y_paths y_many y_lastX y_lastY y_lastBlocks y_op y_number y_kind y_target y_from y_to y_exit y_weight y_firstEdge y_tree y_back y_row y_length y_gone y_done y_went y_cut y_kept y_mark y_way y_tried y_stack := fun h => br_t rfl (nm_r (nI_1 p) (h0 h))
  have Z1 : cd_rw y_row y_length p l → wY_countPath_73 post J (nI l.length) (nI p) 1 y_made y_blocks y_edges y_paths y_many y_lastX y_lastY y_lastBlocks y_op y_number y_kind y_target y_from y_to y_exit y_weight y_firstEdge y_tree y_back y_row y_length y_gone y_done y_went y_cut y_kept y_mark y_way y_tried y_stack := fun h => br_f (by decide) ⟨pk_in p 900 (by omega), pk_in p 900 (by omega), nm_r (e' := upd y_went p (y_went p + 1)) (by rw [cp]) (nm_r (nI_1 p) (h1 h))⟩
  intro d
  induction d with
  | zero =>
    intro i hi
    refine ⟨fun hlen hall => pk_le l.length i (fun _ => Z1 ⟨hlen, fun j h => hall j h (by omega)⟩) (fun h => absurd h (by omega)), fun h => pk_le l.length i (fun _ => Z0 h) (fun h => absurd h (by omega))⟩
  | succ d ih =>
    intro i hi
    obtain ⟨i1, i0⟩ := ih (i + 1) (by omega)
    refine ⟨fun hlen hall => pk_le l.length i (fun h => absurd h (by omega)) (fun _ => br_f (by decide) ?_), fun h => pk_le l.length i (fun h => absurd h (by omega)) (fun _ => br_t rfl (Z0 h))⟩
    have c : 12 * nI p + nI i = nI (12 * p + i) := by rw [show (12 : Int32) = nI 12 from rfl, pk_mul, nI_add]
    have hil : i < l.length := by omega
    refine ⟨pk_in (12 * p + i) 3600 (by omega) c, pk_in i 13 (by omega), ?_⟩
    rw [c, cd_cl (by omega), cd_cl (by omega), hw i hil]
    refine br_c (fun z => nm_r (nI_1 i) (i1 hlen (fun j h hj => ?_))) (fun z => nm_r (nI_1 i) (i0 (fun hr => z (hr.2 i hil))))
    by_cases e : j = i
    · subst e; exact z
    · exact hall j h (by omega)
theorem cd_ycp {post : SY → Prop} {ny : Nat} {l : List Nat} {q : Int32} (hq : q = nI l.length) (hny : ny ≤ 300) (hl : l.length ≤ 12) (hw : ∀ i (h : i < l.length), y_way i = nI l[i])
    (hp : ∀ w, (∀ p, p < ny → (cd_rw y_row y_length p l → w p = y_went p + 1) ∧ (¬ cd_rw y_row y_length p l → w p = y_went p)) → (∀ p, ny ≤ p → w p = y_went p) → post (y_made, y_blocks, y_edges, (nI ny), y_many, y_lastX, y_lastY, y_lastBlocks, y_op, y_number, y_kind, y_target, y_from, y_to, y_exit, y_weight, y_firstEdge, y_tree, y_back, y_row, y_length, y_gone, y_done, w, y_cut, y_kept, y_mark, y_way, y_tried, y_stack)) : wpY_countPath post (y_made, y_blocks, y_edges, (nI ny), y_many, y_lastX, y_lastY, y_lastBlocks, y_op, y_number, y_kind, y_target, y_from, y_to, y_exit, y_weight, y_firstEdge, y_tree, y_back, y_row, y_length, y_gone, y_done, y_went, y_cut, y_kept, y_mark, y_way, y_tried, y_stack) q := by
  subst hq
  have H : ∀ d p w, p + d = ny → (∀ j, j < p → (cd_rw y_row y_length j l → w j = y_went j + 1) ∧ (¬ cd_rw y_row y_length j l → w j = y_went j)) → (∀ j, p ≤ j → w j = y_went j) → wY_countPath_2 post (nI l.length) y_made y_blocks y_edges (nI ny) y_many y_lastX y_lastY y_lastBlocks (d + 1) (nI p) y_op y_number y_kind y_target y_from y_to y_exit y_weight y_firstEdge y_tree y_back y_row y_length y_gone y_done w y_cut y_kept y_mark y_way y_tried y_stack := by
    intro d
    induction d with
    | zero =>
      intro p w hd hlo hhi
      have : p = ny := by omega
      subst this
      exact pk_le p p (fun _ => hp w hlo hhi) (fun h => absurd h (by omega))
    | succ d ih =>
      intro p w hd hlo hhi
      refine pk_le ny p (fun h => absurd h (by omega)) (fun _ => ⟨pk_in p 300 (by omega), ?_⟩)
      rw [cd_cl (by omega)]
      have J1 : cd_rw y_row y_length p l → wY_countPath_2 post (nI l.length) y_made y_blocks y_edges (nI ny) y_many y_lastX y_lastY y_lastBlocks (d + 1) (nI (p + 1)) y_op y_number y_kind y_target y_from y_to y_exit y_weight y_firstEdge y_tree y_back y_row y_length y_gone y_done (upd w p (w p + 1)) y_cut y_kept y_mark y_way y_tried y_stack := by
        intro hr
        refine ih (p + 1) _ (by omega) (fun j hj => ?_) (fun j hj => ?_)
        · by_cases e : j = p
          · subst e
            rw [pk_us, hhi j (Nat.le_refl _)]
            exact ⟨fun _ => rfl, fun z => absurd hr z⟩
          · rw [pk_un e]; exact hlo j (by omega)
        · rw [pk_un (by omega)]; exact hhi j (by omega)
      have J0 : ¬ cd_rw y_row y_length p l → wY_countPath_2 post (nI l.length) y_made y_blocks y_edges (nI ny) y_many y_lastX y_lastY y_lastBlocks (d + 1) (nI (p + 1)) y_op y_number y_kind y_target y_from y_to y_exit y_weight y_firstEdge y_tree y_back y_row y_length y_gone y_done w y_cut y_kept y_mark y_way y_tried y_stack := by
        intro hr
        refine ih (p + 1) _ (by omega) (fun j hj => ?_) (fun j hj => hhi j (by omega))
        by_cases e : j = p
        · subst e
          exact ⟨fun z => absurd z hr, fun _ => hhi j (Nat.le_refl _)⟩
        · exact hlo j (by omega)
      have K := cd_ycp29 (post := post) (J := wY_countPath_2 post (nI l.length) y_made y_blocks y_edges (nI ny) y_many y_lastX y_lastY y_lastBlocks (d + 1)) (y_made := y_made) (y_blocks := y_blocks) (y_edges := y_edges) (y_paths := nI ny) (y_many := y_many) (y_lastX := y_lastX) (y_lastY := y_lastY) (y_lastBlocks := y_lastBlocks) (p := p) (l := l) (y_went := w) (by omega) hl hw J1 J0 l.length 0 (by omega)
      refine br_c (fun z => ⟨_, K.1 z (fun j h hj => absurd hj (by omega))⟩) (fun z => ⟨_, K.2 (fun hr => z hr.1)⟩)
  exact Exists.intro (ny + 1) (H ny 0 y_went (by omega) (fun j hj => absurd hj (by omega)) (fun j _ => rfl))
end
