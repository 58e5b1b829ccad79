/-- the blocks as they are being written -/
def cd_D (n : Nat) (ops operands kinds targets op number kind target : Nat → Int32) : Prop :=
  n ≤ 12 ∧ (∀ i, i < 12 → op i = ops i ∧ number i = operands i ∧ kind i = kinds i ∧ target (3 * i + 1) = targets (3 * i + 1) ∧ target (3 * i + 2) = targets (3 * i + 2)) ∧
  (∀ i, i < n → (∃ k : Nat, k < 6 ∧ kinds i = nI k) ∧ (kinds i = 0 → targets (3 * i) = -1) ∧ (kinds i ≠ 0 → target (3 * i) = targets (3 * i) ∧ ∀ k, k < cd_ec (kinds i) → ∃ t : Nat, t < 12 ∧ targets (3 * i + k) = nI t))
/-- the program that is built -/
def cd_B (nb ne : Nat) (bo bp bk fe fr to op number kind : Nat → Int32) : Prop :=
  nb ≤ 12 ∧ ((nb = 0 ∧ ne = 0) ∨ (0 < nb ∧ ne = cd_fs bk nb + 1)) ∧
  (∀ b, b < nb → op (12 + b) = bo b ∧ number (12 + b) = bp b ∧ kind (12 + b) = bk b ∧ (∃ k : Nat, k < 6 ∧ bk b = nI k) ∧ fe b = nI (cd_fs bk b)) ∧
  (∀ e, e < ne → (to e = -1 ∨ ∃ t : Nat, t < nb ∧ to e = nI t) ∧ (fr e = -1 ∨ ∃ t : Nat, t < nb ∧ fr e = nI t))
/-- the counts -/
def cd_C (mn : Int32) (cn gone done went cut : Nat → Int32) : Prop :=
  (∀ e, e < 37 → gone e = cn e) ∧ (∀ b, b < 12 → done b = cn (37 + b)) ∧ (mn = 0 → ∀ p, p < 300 → went p = cn (49 + p)) ∧ cut 0 = cn 349
/-- the dumps that are kept -/
def cd_K (mn : Int32) (ne : Nat) (dm dk gone done went cut : Nat → Int32) : Prop :=
  ∀ d, d < 2 → dk d ≠ 0 → 0 < ne ∧ (∀ e, e < 37 → gone (37 + 37 * d + e) = dm (350 * d + e)) ∧ (∀ b, b < 12 → done (12 + 12 * d + b) = dm (350 * d + (37 + b))) ∧ (mn = 0 → ∀ p, p < 300 → went (300 + 300 * d + p) = dm (350 * d + (49 + p))) ∧ cut (1 + d) = dm (350 * d + 349)
/-- an edge that ends a path -/
def cd_en (ib to : Nat → Int32) (e : Nat) : Prop := ib e ≠ 0 ∨ to e = -1
/-- how many paths go over exit k of block b -/
noncomputable def cd_wt (bk to ib : Nat → Int32) (G : Nat → Nat) (b k : Nat) : Nat := if ib (cd_fs bk b + k) = 0 ∧ ¬ to (cd_fs bk b + k) = -1 then G (to (cd_fs bk b + k)).toNatClampNeg else 1
/-- reached blocks, their ranks -/
def cd_PG (nb : Nat) (bk to ib : Nat → Int32) (L : Nat → Prop) (rk : Nat → Nat) : Prop :=
  L 0 ∧ ∀ b, b < nb → L b → rk b < nb ∧ ∀ k, k < cd_ec (bk b) → to (cd_fs bk b + k) = -1 ∨ ∃ t : Nat, t < nb ∧ to (cd_fs bk b + k) = nI t ∧ L t ∧ (ib (cd_fs bk b + k) = 0 → rk t < rk b)
/-- their numbers of paths -/
def cd_PN (nb : Nat) (bk to ib pf pb : Nat → Int32) (L : Nat → Prop) (rk G : Nat → Nat) : Prop :=
  ∀ b, b < nb → L b → pf b = nI (G b) ∧ G b = cd_sm (cd_wt bk to ib G b) (cd_ec (bk b)) ∧ G b ≤ 3 ^ (rk b + 1) ∧ ∀ k, k < cd_ec (bk b) → pb (cd_fs bk b + k) = nI (cd_sm (cd_wt bk to ib G b) k)
/-- the begins -/
def cd_PB (nb ne : Nat) (to ib bg : Nat → Int32) : Prop :=
  ∀ b, b < nb → (bg b ≠ 0 ↔ b = 0 ∨ ∃ e, e < ne ∧ ib e ≠ 0 ∧ to e = nI b)
/-- first numbers -/
noncomputable def cd_fp (bg : Nat → Int32) (G : Nat → Nat) (b : Nat) : Nat := cd_sm (fun c => if bg c = 0 then 0 else G c) b
/-- a path from block b -/
def cd_vp (bk to ib : Nat → Int32) : Nat → List Nat → Prop
  | _, [] => False
  | b, e :: l => (∃ k, k < cd_ec (bk b) ∧ e = cd_fs bk b + k) ∧ ((cd_en ib to e ∧ l = []) ∨ (¬ cd_en ib to e ∧ cd_vp bk to ib (to e).toNatClampNeg l))
/-- its number -/
def cd_es (pb : Nat → Int32) : List Nat → Nat
  | [] => 0
  | e :: l => (pb e).toNatClampNeg + cd_es pb l
/-- row p of the reference holds path l -/
def cd_rw (row len : Nat → Int32) (p : Nat) (l : List Nat) : Prop :=
  len p = nI l.length ∧ ∀ i (h : i < l.length), row (12 * p + i) = nI l[i]
def cd_PR (nb ny : Nat) (bk to ib pb bg row len : Nat → Int32) (G : Nat → Nat) : Prop :=
  ∀ p, p < ny → ∃ b l, b < nb ∧ bg b ≠ 0 ∧ cd_vp bk to ib b l ∧ cd_fp bg G b + cd_es pb l = p ∧ cd_rw row len p l
def cd_P (nb ne np : Nat) (bk to ib pf pb bg fp : Nat → Int32) (yp ym : Int32) (row len : Nat → Int32) : Prop :=
  (nb = 0 → np = 0) ∧ (0 < nb → ∃ (L : Nat → Prop) (rk G : Nat → Nat), cd_PG nb bk to ib L rk ∧ cd_PN nb bk to ib pf pb L rk G ∧ cd_PB nb ne to ib bg ∧
    (∀ b, b < nb → bg b ≠ 0 → L b) ∧ (∀ b, b < nb → fp b = nI (cd_fp bg G b)) ∧ np = cd_fp bg G nb ∧
    ∃ ny, yp = nI ny ∧ ((ym = 0 ∧ ny = np ∧ np ≤ 300) ∨ (¬ ym = 0 ∧ ny = 300 ∧ 300 < np)) ∧ cd_PR nb ny bk to ib pb bg row len G)
/-- the relation -/
def i_Rel (_ : Nat) (u : SX) (v : SY) : Prop := match u, v with
  | (x_blocks, x_builtBlocks, x_edges, x_paths, x_runX, x_runY, x_runDone, x_ops, x_operands, x_kinds, x_targets, x_builtOps, x_builtOperands, x_builtKinds, x_firstEdge, x_edgeFrom, x_edgeExit, x_edgeTo, x_edgeWeight, x_inTree, x_isBack, x_beginsPaths, x_firstPath, x_pathsFrom, x_pathsBefore, x_counts, x_dumped, x_dumpKept, x_looked, x_joined, x_met, x_nextExit, x_way), (y_made, y_blocks, y_edges, y_paths, y_many, y_lastX, y_lastY, y_lastBlocks, y_op, y_number, y_kind, y_target, y_from, y_to, y_exit, y_weight, y_firstEdge, y_tree, y_back, y_row, y_length, y_gone, y_done, y_went, y_cut, y_kept, y_mark, y_way, y_tried, y_stack) => ∃ n nb ne np : Nat, x_blocks = nI n ∧ y_made = nI n ∧ x_builtBlocks = nI nb ∧ y_blocks = nI nb ∧ x_edges = nI ne ∧ y_edges = nI ne ∧ x_paths = nI np ∧ x_runX = y_lastX ∧ x_runY = y_lastY ∧ x_runDone = y_lastBlocks ∧ x_edgeFrom = y_from ∧ x_edgeTo = y_to ∧ x_edgeExit = y_exit ∧ x_edgeWeight = y_weight ∧ x_firstEdge = y_firstEdge ∧ x_inTree = y_tree ∧ x_isBack = y_back ∧ x_dumpKept = y_kept ∧
    cd_D n x_ops x_operands x_kinds x_targets y_op y_number y_kind y_target ∧
    cd_B nb ne x_builtOps x_builtOperands x_builtKinds x_firstEdge x_edgeFrom x_edgeTo y_op y_number y_kind ∧
    cd_C y_many x_counts y_gone y_done y_went y_cut ∧
    cd_K y_many ne x_dumped x_dumpKept y_gone y_done y_went y_cut ∧
    cd_P nb ne np x_builtKinds x_edgeTo x_isBack x_pathsFrom x_pathsBefore x_beginsPaths x_firstPath y_paths y_many y_row y_length
section
variable {x_blocks x_builtBlocks x_edges x_paths x_runX x_runY x_runDone : Int32} {x_ops x_operands x_kinds x_targets x_builtOps x_builtOperands x_builtKinds x_firstEdge x_edgeFrom x_edgeExit x_edgeTo x_edgeWeight x_inTree x_isBack x_beginsPaths x_firstPath x_pathsFrom x_pathsBefore x_counts x_dumped x_dumpKept x_looked x_joined x_met x_nextExit x_way : Nat → Int32} {y_made y_blocks y_edges y_paths y_many y_lastX y_lastY y_lastBlocks : Int32} {y_op y_number y_kind y_target y_from y_to y_exit y_weight y_firstEdge y_tree y_back y_row y_length y_gone y_done y_went y_cut y_kept y_mark y_way y_tried y_stack : Nat → Int32}
theorem cd_mk {k : Nat} (n nb ne np : Nat)
    (hD : cd_D n x_ops x_operands x_kinds x_targets y_op y_number y_kind y_target)
    (hB : cd_B nb ne x_builtOps x_builtOperands x_builtKinds x_firstEdge x_edgeFrom x_edgeTo y_op y_number y_kind)
    (hC : cd_C y_many x_counts y_gone y_done y_went y_cut)
    (hK : cd_K y_many ne x_dumped x_dumpKept y_gone y_done y_went y_cut)
    (hP : cd_P nb ne np x_builtKinds x_edgeTo x_isBack x_pathsFrom x_pathsBefore x_beginsPaths x_firstPath y_paths y_many y_row y_length) :
    i_Rel k ((nI n), (nI nb), (nI ne), (nI np), x_runX, x_runY, x_runDone, x_ops, x_operands, x_kinds, x_targets, x_builtOps, x_builtOperands, x_builtKinds, x_firstEdge, x_edgeFrom, x_edgeExit, x_edgeTo, x_edgeWeight, x_inTree, x_isBack, x_beginsPaths, x_firstPath, x_pathsFrom, x_pathsBefore, x_counts, x_dumped, x_dumpKept, x_looked, x_joined, x_met, x_nextExit, x_way) ((nI n), (nI nb), (nI ne), y_paths, y_many, x_runX, x_runY, x_runDone, y_op, y_number, y_kind, y_target, x_edgeFrom, x_edgeTo, x_edgeExit, x_edgeWeight, x_firstEdge, x_inTree, x_isBack, y_row, y_length, y_gone, y_done, y_went, y_cut, x_dumpKept, y_mark, y_way, y_tried, y_stack) :=
  ⟨n, nb, ne, np, rfl, rfl, rfl, rfl, rfl, rfl, rfl, rfl, rfl, rfl, rfl, rfl, rfl, rfl, rfl, rfl, rfl, rfl, hD, hB, hC, hK, hP⟩
end
theorem i_up {k : Nat} {u : SX} {v : SY} (h : i_Rel k u v) : i_Rel (k + 6) u v := h
theorem i_vc0 : wpX_init (fun u => wpY_init (fun v => i_Rel 0 u v)) := by
  refine ⟨0, 0, 0, 0, rfl, rfl, rfl, rfl, rfl, rfl, rfl, rfl, rfl, rfl, rfl, rfl, rfl, rfl, rfl, rfl, rfl, rfl, ?_, ?_, ?_, ?_, ?_⟩
  · exact ⟨by omega, fun i hi => ⟨rfl, rfl, rfl, rfl, rfl⟩, fun i hi => absurd hi (by omega)⟩
  · exact ⟨by omega, Or.inl ⟨rfl, rfl⟩, fun i hi => absurd hi (by omega), fun i hi => absurd hi (by omega)⟩
  · exact ⟨fun _ _ => rfl, fun _ _ => rfl, fun _ _ _ => rfl, rfl⟩
  · exact fun d hd h => absurd rfl h
  · exact ⟨fun _ => rfl, fun h => absurd h (by omega)⟩
/-- what the relation says, taken apart -/
theorem cd_ne {nb ne : Nat} {bo bp bk fe fr to op number kind : Nat → Int32} (h : cd_B nb ne bo bp bk fe fr to op number kind) : nb ≤ 12 ∧ ne ≤ 37 ∧ (nb = 0 ↔ ne = 0) := by
  obtain ⟨h1, h2, h3⟩ := h
  have := cd_fs_b bk nb
  omega
