/-- the edges' own values: block, exit, target; the entry edge behind them -/
noncomputable def cd_eF (kd : Nat → Int32) (n e : Nat) : Int32 := @ite _ (∃ b k, b < n ∧ k < cd_ec (kd b) ∧ e = cd_fs kd b + k) (Classical.propDecidable _) (nI (Classical.epsilon (fun b => ∃ k, b < n ∧ k < cd_ec (kd b) ∧ e = cd_fs kd b + k))) (-1)
noncomputable def cd_eE (kd : Nat → Int32) (n e : Nat) : Int32 := @ite _ (∃ b k, b < n ∧ k < cd_ec (kd b) ∧ e = cd_fs kd b + k) (Classical.propDecidable _) (nI (Classical.epsilon (fun k => ∃ b, b < n ∧ k < cd_ec (kd b) ∧ e = cd_fs kd b + k))) 0
noncomputable def cd_eT (kd tg : Nat → Int32) (n e : Nat) : Int32 := @ite _ (∃ b k, b < n ∧ k < cd_ec (kd b) ∧ e = cd_fs kd b + k) (Classical.propDecidable _) (tg (3 * Classical.epsilon (fun b => ∃ k, b < n ∧ k < cd_ec (kd b) ∧ e = cd_fs kd b + k) + Classical.epsilon (fun k => ∃ b, b < n ∧ k < cd_ec (kd b) ∧ e = cd_fs kd b + k))) 0
theorem cd_eb {kd : Nat → Int32} {n b k : Nat} (hb : b < n) (hk : k < cd_ec (kd b)) : Classical.epsilon (fun b' => ∃ k', b' < n ∧ k' < cd_ec (kd b') ∧ cd_fs kd b + k = cd_fs kd b' + k') = b := by
  obtain ⟨k', h1, h2, h3⟩ := Classical.epsilon_spec (p := fun b' => ∃ k', b' < n ∧ k' < cd_ec (kd b') ∧ cd_fs kd b + k = cd_fs kd b' + k') ⟨b, k, hb, hk, rfl⟩
  exact (cd_fs_inj hk h2 h3).1.symm
theorem cd_ek {kd : Nat → Int32} {n b k : Nat} (hb : b < n) (hk : k < cd_ec (kd b)) : Classical.epsilon (fun k' => ∃ b', b' < n ∧ k' < cd_ec (kd b') ∧ cd_fs kd b + k = cd_fs kd b' + k') = k := by
  obtain ⟨b', h1, h2, h3⟩ := Classical.epsilon_spec (p := fun k' => ∃ b', b' < n ∧ k' < cd_ec (kd b') ∧ cd_fs kd b + k = cd_fs kd b' + k') ⟨k, b, hb, hk, rfl⟩
  exact (cd_fs_inj hk h2 h3).2.symm
theorem cd_eFv {kd : Nat → Int32} {n b k : Nat} (hb : b < n) (hk : k < cd_ec (kd b)) : cd_eF kd n (cd_fs kd b + k) = nI b := by
  unfold cd_eF
  rw [if_pos ⟨b, k, hb, hk, rfl⟩, cd_eb hb hk]
theorem cd_eEv {kd : Nat → Int32} {n b k : Nat} (hb : b < n) (hk : k < cd_ec (kd b)) : cd_eE kd n (cd_fs kd b + k) = nI k := by
  unfold cd_eE
  rw [if_pos ⟨b, k, hb, hk, rfl⟩, cd_ek hb hk]
theorem cd_eTv {kd tg : Nat → Int32} {n b k : Nat} (hb : b < n) (hk : k < cd_ec (kd b)) : cd_eT kd tg n (cd_fs kd b + k) = tg (3 * b + k) := by
  unfold cd_eT
  rw [if_pos ⟨b, k, hb, hk, rfl⟩, cd_eb hb hk, cd_ek hb hk]
theorem cd_eno {kd : Nat → Int32} {n : Nat} : ¬ ∃ b k, b < n ∧ k < cd_ec (kd b) ∧ cd_fs kd n = cd_fs kd b + k := by
  rintro ⟨b, k, h1, h2, h3⟩
  have := cd_fs_lt (kd := kd) h1
  omega
theorem cd_eFn {kd : Nat → Int32} {n : Nat} : cd_eF kd n (cd_fs kd n) = -1 := if_neg cd_eno
theorem cd_eEn {kd : Nat → Int32} {n : Nat} : cd_eE kd n (cd_fs kd n) = 0 := if_neg cd_eno
theorem cd_eTn {kd tg : Nat → Int32} {n : Nat} : cd_eT kd tg n (cd_fs kd n) = 0 := if_neg cd_eno
/-- every edge is a block's or the entry -/
theorem cd_ewh {kd : Nat → Int32} : ∀ n e, e < cd_fs kd n → ∃ b k, b < n ∧ k < cd_ec (kd b) ∧ e = cd_fs kd b + k
  | 0, e, h => absurd h (by show ¬ e < 0; omega)
  | n + 1, e, h => by
    rw [cd_fs_s] at h
    by_cases g : e < cd_fs kd n
    · obtain ⟨b, k, h1, h2, h3⟩ := cd_ewh n e g
      exact ⟨b, k, by omega, h2, h3⟩
    · exact ⟨n, e - cd_fs kd n, by omega, by omega, by omega⟩
/-- all targets are there -/
def cd_at (n : Nat) (kinds targets : Nat → Int32) : Prop := ∀ b, b < n → kinds b ≠ 0 → ∀ k, k < cd_ec (kinds b) → ∃ t : Nat, t < n ∧ targets (3 * b + k) = nI t
section
variable {x_blocks x_builtBlocks x_edges x_paths x_runX x_runY x_runDone : Int32} {x_ops x_operands x_kinds x_targets x_builtOps x_builtOperands x_builtKinds x_firstEdge x_edgeFrom x_edgeExit x_edgeTo x_edgeWeight x_inTree x_isBack x_beginsPaths x_firstPath x_pathsFrom x_pathsBefore x_counts x_dumped x_dumpKept x_looked x_joined x_met x_nextExit x_way : Nat → Int32} {y_made y_blocks y_edges y_paths y_many y_lastX y_lastY y_lastBlocks : Int32} {y_op y_number y_kind y_target y_from y_to y_exit y_weight y_firstEdge y_tree y_back y_row y_length y_gone y_done y_went y_cut y_kept y_mark y_way y_tried y_stack : Nat → Int32}
theorem cd_xall {post : Int32 → Prop} {n : Nat} {op number kind target : Nat → Int32} (hD : cd_D n x_ops x_operands x_kinds x_targets op number kind target) (h1 : cd_at n x_kinds x_targets → post 1) (h0 : ¬ cd_at n x_kinds x_targets → post 0) : wpX_allTargetsThere post ((nI n), x_builtBlocks, x_edges, x_paths, x_runX, x_runY, x_runDone, x_ops, x_operands, x_kinds, x_targets, x_builtOps, x_builtOperands, x_builtKinds, x_firstEdge, x_edgeFrom, x_edgeExit, x_edgeTo, x_edgeWeight, x_inTree, x_isBack, x_beginsPaths, x_firstPath, x_pathsFrom, x_pathsBefore, x_counts, x_dumped, x_dumpKept, x_looked, x_joined, x_met, x_nextExit, x_way) := by
  have hn := hD.1
  have H : ∀ d b, b + d = n → (∀ c, c < b → x_kinds c ≠ 0 → ∀ k, k < cd_ec (x_kinds c) → ∃ t : Nat, t < n ∧ x_targets (3 * c + k) = nI t) → wX_allTargetsThere_2 post (nI n) x_builtBlocks x_edges x_paths x_runX x_runY x_runDone x_ops x_operands x_kinds x_targets x_builtOps x_builtOperands x_builtKinds x_firstEdge x_edgeFrom x_edgeExit x_edgeTo x_edgeWeight x_inTree x_isBack x_beginsPaths x_firstPath x_pathsFrom x_pathsBefore x_counts x_dumped x_dumpKept x_looked x_joined x_met x_nextExit x_way (d + 1) (nI b) := by
    intro d
    induction d with
    | zero =>
      intro b hb hall
      have : b = n := by omega
      subst this
      exact pk_le b b (fun _ => h1 hall) (fun h => absurd h (by omega))
    | succ d ih =>
      intro b hb hall
      obtain ⟨d1, d2, d3⟩ := hD.2.2 b (by omega)
      refine pk_le n b (fun h => absurd h (by omega)) (fun _ => ⟨pk_in b 12 (by omega), ?_⟩)
      rw [cd_cl (by omega)]
      refine cd_xec ⟨cd_ec (x_kinds b) + 1, ?_⟩
      have hr := cd_ec_r (x_kinds b)
      have K : ∀ r k, k + r = cd_ec (x_kinds b) → (x_kinds b ≠ 0 → ∀ j, j < k → ∃ t : Nat, t < n ∧ x_targets (3 * b + j) = nI t) → wX_allTargetsThere_22 post (wX_allTargetsThere_2 post (nI n) x_builtBlocks x_edges x_paths x_runX x_runY x_runDone x_ops x_operands x_kinds x_targets x_builtOps x_builtOperands x_builtKinds x_firstEdge x_edgeFrom x_edgeExit x_edgeTo x_edgeWeight x_inTree x_isBack x_beginsPaths x_firstPath x_pathsFrom x_pathsBefore x_counts x_dumped x_dumpKept x_looked x_joined x_met x_nextExit x_way (d + 1)) (nI b) (nI (cd_ec (x_kinds b))) (nI n) x_builtBlocks x_edges x_paths x_runX x_runY x_runDone x_ops x_operands x_kinds x_targets x_builtOps x_builtOperands x_builtKinds x_firstEdge x_edgeFrom x_edgeExit x_edgeTo x_edgeWeight x_inTree x_isBack x_beginsPaths x_firstPath x_pathsFrom x_pathsBefore x_counts x_dumped x_dumpKept x_looked x_joined x_met x_nextExit x_way (r + 1) (nI k) := by
        intro r
        induction r with
        | zero =>
          intro k hk hal
          refine pk_le (cd_ec (x_kinds b)) k (fun _ => nm_r (nI_1 b) (ih (b + 1) (by omega) (fun c hc hz j hj => ?_))) (fun h => absurd h (by omega))
          by_cases e : c = b
          · subst e; exact hal hz j (by omega)
          · exact hall c (by omega) hz j hj
        | succ r ih2 =>
          intro k hk hal
          have c : nI b * 3 + nI k = nI (3 * b + k) := by rw [show (3 : Int32) = nI 3 from rfl, pk_mul, nI_add, Nat.mul_comm]
          refine pk_le (cd_ec (x_kinds b)) k (fun h => absurd h (by omega)) (fun _ => ⟨pk_in (3 * b + k) 36 (by omega) c, ?_⟩)
          rw [c, cd_cl (by omega)]
          by_cases hz : x_kinds b = 0
          · have he : cd_ec (x_kinds b) = 1 := by rw [hz]; decide
            have hk0 : k = 0 := by omega
            subst hk0
            have e := d2 hz
            refine br_t (by show x_targets (3 * b) < nI n; rw [e, Int32.lt_iff_toInt_lt, nI_toInt (by omega)]; have : (-1 : Int32).toInt = -1 := by decide
                            omega) (nm_r (nI_1 0) (ih2 1 (by omega) (fun z => absurd hz z)))
          · obtain ⟨t, ht, et⟩ := (d3 hz).2 k (by omega)
            refine pk_lt t n (fun hlt => nm_r (nI_1 k) (ih2 (k + 1) (by omega) (fun _ j hj => ?_))) (fun hge => h0 (fun hat => ?_)) et
            · by_cases e : j = k
              · subst e; exact ⟨t, hlt, et⟩
              · exact hal hz j (by omega)
            · obtain ⟨t', ht', et'⟩ := hat b (by omega) hz k (by omega)
              rw [et, nI_eq (by omega) (by omega)] at et'
              omega
      exact K (cd_ec (x_kinds b)) 0 (by omega) (fun _ j hj => absurd hj (by omega))
  exact Exists.intro (n + 1) (H n 0 (by omega) (fun c hc => absurd hc (by omega)))
theorem cd_ywhole {post : Int32 → Prop} {n : Nat} {ops operands kinds targets : Nat → Int32} (hD : cd_D n ops operands kinds targets y_op y_number y_kind y_target) (h1 : 0 < n → cd_at n kinds targets → post 1) (h0 : (n = 0 ∨ ¬ cd_at n kinds targets) → post 0) : wpY_whole post ((nI n), y_blocks, y_edges, y_paths, y_many, y_lastX, y_lastY, y_lastBlocks, y_op, y_number, y_kind, y_target, y_from, y_to, y_exit, y_weight, y_firstEdge, y_tree, y_back, y_row, y_length, y_gone, y_done, y_went, y_cut, y_kept, y_mark, y_way, y_tried, y_stack) := by
  have hn := hD.1
  have H : ∀ d b, b + d = n → (∀ c, c < b → kinds c ≠ 0 → ∀ k, k < cd_ec (kinds c) → ∃ t : Nat, t < n ∧ targets (3 * c + k) = nI t) → wY_whole_2 post (nI n) y_blocks y_edges y_paths y_many y_lastX y_lastY y_lastBlocks y_op y_number y_kind y_target y_from y_to y_exit y_weight y_firstEdge y_tree y_back y_row y_length y_gone y_done y_went y_cut y_kept y_mark y_way y_tried y_stack (d + 1) (nI b) := by
    intro d
    induction d with
    | zero =>
      intro b hb hall
      have : b = n := by omega
      subst this
      exact pk_le b b (fun _ => pk_le b 0 (fun h => h0 (Or.inl (by omega))) (fun h => h1 h hall)) (fun h => absurd h (by omega))
    | succ d ih =>
      intro b hb hall
      obtain ⟨d1, d2, d3⟩ := hD.2.2 b (by omega)
      obtain ⟨f1, f2, f3, f4, f5⟩ := hD.2.1 b (by omega)
      have hr := cd_ec_r (kinds b)
      refine pk_le n b (fun h => absurd h (by omega)) (fun _ => ⟨pk_in b 24 (by omega), ?_⟩)
      rw [cd_cl (by omega), f3]
      refine br_c (fun hz => ⟨1, pk_le 0 0 (fun _ => nm_r (nI_1 b) (ih (b + 1) (by omega) (fun c hc hz2 j hj => ?_))) (fun h => absurd h (by omega))⟩) (fun hz => ⟨pk_in b 24 (by omega), cd_yec d1 ⟨cd_ec (kinds b) + 1, ?_⟩⟩)
      · by_cases e : c = b
        · subst e; exact absurd hz hz2
        · exact hall c (by omega) hz2 j hj
      have K : ∀ r k, k + r = cd_ec (kinds b) → (∀ j, j < k → ∃ t : Nat, t < n ∧ targets (3 * b + j) = nI t) → wY_whole_35 post (wY_whole_2 post (nI n) y_blocks y_edges y_paths y_many y_lastX y_lastY y_lastBlocks y_op y_number y_kind y_target y_from y_to y_exit y_weight y_firstEdge y_tree y_back y_row y_length y_gone y_done y_went y_cut y_kept y_mark y_way y_tried y_stack (d + 1)) (nI b) (nI (cd_ec (kinds b))) (nI n) y_blocks y_edges y_paths y_many y_lastX y_lastY y_lastBlocks y_op y_number y_kind y_target y_from y_to y_exit y_weight y_firstEdge y_tree y_back y_row y_length y_gone y_done y_went y_cut y_kept y_mark y_way y_tried y_stack (r + 1) (nI k) := by
        intro r
        induction r with
        | zero =>
          intro k hk hal
          refine pk_le (cd_ec (kinds b)) k (fun _ => nm_r (nI_1 b) (ih (b + 1) (by omega) (fun c hc hz j hj => ?_))) (fun h => absurd h (by omega))
          by_cases e : c = b
          · subst e; exact hal j (by omega)
          · exact hall c (by omega) hz j hj
        | succ r ih2 =>
          intro k hk hal
          have c : 3 * nI b + nI k = nI (3 * b + k) := by rw [show (3 : Int32) = nI 3 from rfl, pk_mul, nI_add]
          refine pk_le (cd_ec (kinds b)) k (fun h => absurd h (by omega)) (fun _ => ⟨pk_in (3 * b + k) 72 (by omega) c, ?_⟩)
          rw [c, cd_cl (by omega)]
          obtain ⟨t, ht, et⟩ := (d3 hz).2 k (by omega)
          have eY : y_target (3 * b + k) = targets (3 * b + k) := by
            by_cases k0 : k = 0
            · subst k0; exact (d3 hz).1
            · by_cases k1 : k = 1
              · subst k1; exact f4
              · have : k = 2 := by omega
                subst this; exact f5
          refine pk_lt t n (fun hlt => nm_r (nI_1 k) (ih2 (k + 1) (by omega) (fun j hj => ?_))) (fun hge => h0 (Or.inr (fun hat => ?_))) (eY.trans et)
          · by_cases e : j = k
            · subst e; exact ⟨t, hlt, et⟩
            · exact hal j (by omega)
          · obtain ⟨t', ht', et'⟩ := hat b (by omega) hz k (by omega)
            rw [et, nI_eq (by omega) (by omega)] at et'
            omega
      exact K (cd_ec (kinds b)) 0 (by omega) (fun j hj => absurd hj (by omega))
  exact Exists.intro (n + 1) (H n 0 (by omega) (fun c hc => absurd hc (by omega)))
theorem cd_xapp {post : SX → Prop} {nb b m : Nat} {p0 p1 p2 : Int32} (hm : m < 37) (h0 : p0 = cd_eF x_builtKinds nb m) (h1 : p1 = cd_eE x_builtKinds nb m) (h2 : p2 = cd_eT x_builtKinds x_targets nb m) (hp : post (x_blocks, (nI nb), (nI (m + 1)), x_paths, x_runX, x_runY, x_runDone, x_ops, x_operands, x_kinds, x_targets, x_builtOps, x_builtOperands, x_builtKinds, (cd_fo x_firstEdge 0 (b) (fun c => nI (cd_fs x_builtKinds c))), (cd_fo x_edgeFrom 0 (m + 1) (cd_eF x_builtKinds nb)), (cd_fo x_edgeExit 0 (m + 1) (cd_eE x_builtKinds nb)), (cd_fo x_edgeTo 0 (m + 1) (cd_eT x_builtKinds x_targets nb)), (cd_fo x_edgeWeight 0 (m + 1) (fun _ => 0)), x_inTree, (cd_fo x_isBack 0 (m + 1) (fun _ => 0)), x_beginsPaths, x_firstPath, x_pathsFrom, (cd_fo x_pathsBefore 0 (m + 1) (fun _ => 0)), x_counts, x_dumped, x_dumpKept, x_looked, x_joined, x_met, x_nextExit, x_way)) : wpX_appendEdge post (x_blocks, (nI nb), (nI (m)), x_paths, x_runX, x_runY, x_runDone, x_ops, x_operands, x_kinds, x_targets, x_builtOps, x_builtOperands, x_builtKinds, (cd_fo x_firstEdge 0 (b) (fun c => nI (cd_fs x_builtKinds c))), (cd_fo x_edgeFrom 0 (m) (cd_eF x_builtKinds nb)), (cd_fo x_edgeExit 0 (m) (cd_eE x_builtKinds nb)), (cd_fo x_edgeTo 0 (m) (cd_eT x_builtKinds x_targets nb)), (cd_fo x_edgeWeight 0 (m) (fun _ => 0)), x_inTree, (cd_fo x_isBack 0 (m) (fun _ => 0)), x_beginsPaths, x_firstPath, x_pathsFrom, (cd_fo x_pathsBefore 0 (m) (fun _ => 0)), x_counts, x_dumped, x_dumpKept, x_looked, x_joined, x_met, x_nextExit, x_way) p0 p1 p2 :=
  have i : vp_in (nI m) 37 := pk_in m 37 hm
  ⟨i, nm_r (cd_fo_z (by omega) h0) ⟨i, nm_r (cd_fo_z (by omega) h1) ⟨i, nm_r (cd_fo_z (by omega) h2) ⟨i, nm_r (cd_fo_z (by omega) rfl) ⟨i, nm_r (cd_fo_z (by omega) rfl) ⟨i, nm_r (cd_fo_z (by omega) rfl) (nm_r (nI_1 m) hp)⟩⟩⟩⟩⟩⟩
theorem cd_xlist {post : SX → Prop} {nb : Nat} (hnb : nb ≤ 12) (hp : post (x_blocks, (nI nb), (nI (cd_fs x_builtKinds nb + 1)), x_paths, x_runX, x_runY, x_runDone, x_ops, x_operands, x_kinds, x_targets, x_builtOps, x_builtOperands, x_builtKinds, (cd_fo x_firstEdge 0 (nb) (fun c => nI (cd_fs x_builtKinds c))), (cd_fo x_edgeFrom 0 (cd_fs x_builtKinds nb + 1) (cd_eF x_builtKinds nb)), (cd_fo x_edgeExit 0 (cd_fs x_builtKinds nb + 1) (cd_eE x_builtKinds nb)), (cd_fo x_edgeTo 0 (cd_fs x_builtKinds nb + 1) (cd_eT x_builtKinds x_targets nb)), (cd_fo x_edgeWeight 0 (cd_fs x_builtKinds nb + 1) (fun _ => 0)), x_inTree, (cd_fo x_isBack 0 (cd_fs x_builtKinds nb + 1) (fun _ => 0)), x_beginsPaths, x_firstPath, x_pathsFrom, (cd_fo x_pathsBefore 0 (cd_fs x_builtKinds nb + 1) (fun _ => 0)), x_counts, x_dumped, x_dumpKept, x_looked, x_joined, x_met, x_nextExit, x_way)) : wpX_listEdges post (x_blocks, (nI nb), x_edges, x_paths, x_runX, x_runY, x_runDone, x_ops, x_operands, x_kinds, x_targets, x_builtOps, x_builtOperands, x_builtKinds, x_firstEdge, x_edgeFrom, x_edgeExit, x_edgeTo, x_edgeWeight, x_inTree, x_isBack, x_beginsPaths, x_firstPath, x_pathsFrom, x_pathsBefore, x_counts, x_dumped, x_dumpKept, x_looked, x_joined, x_met, x_nextExit, x_way) := by
  have hfs := (cd_fs_b x_builtKinds nb).2
  have H : ∀ d b, b + d = nb → wX_listEdges_7 post (d + 1) (nI b) x_blocks (nI nb) (nI (cd_fs x_builtKinds b)) x_paths x_runX x_runY x_runDone x_ops x_operands x_kinds x_targets x_builtOps x_builtOperands x_builtKinds (cd_fo x_firstEdge 0 (b) (fun c => nI (cd_fs x_builtKinds c))) (cd_fo x_edgeFrom 0 (cd_fs x_builtKinds b) (cd_eF x_builtKinds nb)) (cd_fo x_edgeExit 0 (cd_fs x_builtKinds b) (cd_eE x_builtKinds nb)) (cd_fo x_edgeTo 0 (cd_fs x_builtKinds b) (cd_eT x_builtKinds x_targets nb)) (cd_fo x_edgeWeight 0 (cd_fs x_builtKinds b) (fun _ => 0)) x_inTree (cd_fo x_isBack 0 (cd_fs x_builtKinds b) (fun _ => 0)) x_beginsPaths x_firstPath x_pathsFrom (cd_fo x_pathsBefore 0 (cd_fs x_builtKinds b) (fun _ => 0)) x_counts x_dumped x_dumpKept x_looked x_joined x_met x_nextExit x_way := by
    intro d
    induction d with
    | zero =>
      intro b hb
      have : b = nb := by omega
      subst this
      exact pk_le b b (fun _ => cd_xapp (by omega) cd_eFn.symm cd_eEn.symm cd_eTn.symm hp) (fun h => absurd h (by omega))
    | succ d ih =>
      intro b hb
      have hlt := cd_fs_lt (kd := x_builtKinds) (b := b) (c := nb) (by omega)
      refine pk_le nb b (fun h => absurd h (by omega)) (fun _ => ⟨pk_in b 12 (by omega), nm_r (cd_fo_z (by omega) rfl) ⟨pk_in b 12 (by omega), ?_⟩⟩)
      rw [cd_cl (by omega)]
      refine cd_xec ⟨cd_ec (x_builtKinds b) + 1, ?_⟩
      have K : ∀ r k, k + r = cd_ec (x_builtKinds b) → wX_listEdges_37 post (wX_listEdges_7 post (d + 1)) (nI b) (nI (cd_ec (x_builtKinds b))) (r + 1) (nI k) x_blocks (nI nb) (nI (cd_fs x_builtKinds b + k)) x_paths x_runX x_runY x_runDone x_ops x_operands x_kinds x_targets x_builtOps x_builtOperands x_builtKinds (cd_fo x_firstEdge 0 (b + 1) (fun c => nI (cd_fs x_builtKinds c))) (cd_fo x_edgeFrom 0 (cd_fs x_builtKinds b + k) (cd_eF x_builtKinds nb)) (cd_fo x_edgeExit 0 (cd_fs x_builtKinds b + k) (cd_eE x_builtKinds nb)) (cd_fo x_edgeTo 0 (cd_fs x_builtKinds b + k) (cd_eT x_builtKinds x_targets nb)) (cd_fo x_edgeWeight 0 (cd_fs x_builtKinds b + k) (fun _ => 0)) x_inTree (cd_fo x_isBack 0 (cd_fs x_builtKinds b + k) (fun _ => 0)) x_beginsPaths x_firstPath x_pathsFrom (cd_fo x_pathsBefore 0 (cd_fs x_builtKinds b + k) (fun _ => 0)) x_counts x_dumped x_dumpKept x_looked x_joined x_met x_nextExit x_way := by
        intro r
        induction r with
        | zero =>
          intro k hk
          have : k = cd_ec (x_builtKinds b) := by omega
          subst this
          exact pk_le _ _ (fun _ => nm_r (nI_1 b) (ih (b + 1) (by omega))) (fun h => absurd h (by omega)) rfl rfl (by omega) (by omega)
        | succ r ih2 =>
          intro k hk
          have c : nI b * 3 + nI k = nI (3 * b + k) := by rw [show (3 : Int32) = nI 3 from rfl, pk_mul, nI_add, Nat.mul_comm]
          have hr := cd_ec_r (x_builtKinds b)
          refine pk_le (cd_ec (x_builtKinds b)) k (fun h => absurd h (by omega)) (fun _ => ⟨pk_in (3 * b + k) 36 (by omega) c, ?_⟩)
          rw [c, cd_cl (by omega)]
          exact cd_xapp (by omega) (cd_eFv (by omega) (by omega)).symm (cd_eEv (by omega) (by omega)).symm (cd_eTv (by omega) (by omega)).symm (nm_r (nI_1 k) (ih2 (k + 1) (by omega)))
      exact K (cd_ec (x_builtKinds b)) 0 (by omega)
  exact Exists.intro (nb + 1) (H nb 0 (by omega))
theorem cd_yapp {post : SY → Prop} {nb b b2 m : Nat} {kd tg : Nat → Int32} {p0 p1 p2 : Int32} (hm : m < 37) (h0 : p0 = cd_eF kd nb m) (h1 : p1 = cd_eE kd nb m) (h2 : p2 = cd_eT kd tg nb m) (hp : post ((nI nb), (nI nb), (nI (m + 1)), y_paths, y_many, y_lastX, y_lastY, y_lastBlocks, (cd_fo y_op 12 (b2) y_op), (cd_fo y_number 12 (b2) y_number), (cd_fo y_kind 12 (b2) y_kind), y_target, (cd_fo y_from 0 (m + 1) (cd_eF kd nb)), (cd_fo y_to 0 (m + 1) (cd_eT kd tg nb)), (cd_fo y_exit 0 (m + 1) (cd_eE kd nb)), (cd_fo y_weight 0 (m + 1) (fun _ => 0)), (cd_fo y_firstEdge 0 (b) (fun c => nI (cd_fs kd c))), y_tree, y_back, y_row, y_length, y_gone, y_done, y_went, y_cut, y_kept, y_mark, y_way, y_tried, y_stack)) : wpY_addEdge post ((nI nb), (nI nb), (nI (m)), y_paths, y_many, y_lastX, y_lastY, y_lastBlocks, (cd_fo y_op 12 (b2) y_op), (cd_fo y_number 12 (b2) y_number), (cd_fo y_kind 12 (b2) y_kind), y_target, (cd_fo y_from 0 (m) (cd_eF kd nb)), (cd_fo y_to 0 (m) (cd_eT kd tg nb)), (cd_fo y_exit 0 (m) (cd_eE kd nb)), (cd_fo y_weight 0 (m) (fun _ => 0)), (cd_fo y_firstEdge 0 (b) (fun c => nI (cd_fs kd c))), y_tree, y_back, y_row, y_length, y_gone, y_done, y_went, y_cut, y_kept, y_mark, y_way, y_tried, y_stack) p0 p1 p2 :=
  have i : vp_in (nI m) 37 := pk_in m 37 hm
  ⟨i, nm_r (cd_fo_z (by omega) h0) ⟨i, nm_r (cd_fo_z (by omega) h1) ⟨i, nm_r (cd_fo_z (by omega) h2) ⟨i, nm_r (cd_fo_z (by omega) rfl) (nm_r (nI_1 m) hp)⟩⟩⟩⟩
theorem cd_ylist {post : Int32 → SY → Prop} {nb : Nat} {ops operands kd kd0 tg : Nat → Int32} (hD : cd_D nb ops operands kd0 tg y_op y_number y_kind y_target) (hkk : ∀ b, b < nb → kd b = kd0 b)
    (hp : wpY_findBack (fun u => wpY_findPaths (fun u => wpY_renew (fun u => match u with | (u_made, u_blocks, u_edges, u_paths, u_many, u_lastX, u_lastY, u_lastBlocks, u_op, u_number, u_kind, u_target, u_from, u_to, u_exit, u_weight, u_firstEdge, u_tree, u_back, u_row, u_length, u_gone, u_done, u_went, u_cut, u_kept, u_mark, u_way, u_tried, u_stack) => post u_edges (u_made, u_blocks, u_edges, u_paths, u_many, u_lastX, u_lastY, u_lastBlocks, u_op, u_number, u_kind, u_target, u_from, u_to, u_exit, u_weight, u_firstEdge, u_tree, u_back, u_row, u_length, u_gone, u_done, u_went, u_cut, u_kept, u_mark, u_way, u_tried, u_stack)) u) u) ((nI nb), (nI nb), (nI (cd_fs kd nb + 1)), y_paths, y_many, 0, 0, 0, (cd_fo y_op 12 (nb) y_op), (cd_fo y_number 12 (nb) y_number), (cd_fo y_kind 12 (nb) y_kind), y_target, (cd_fo y_from 0 (cd_fs kd nb + 1) (cd_eF kd nb)), (cd_fo y_to 0 (cd_fs kd nb + 1) (cd_eT kd tg nb)), (cd_fo y_exit 0 (cd_fs kd nb + 1) (cd_eE kd nb)), (cd_fo y_weight 0 (cd_fs kd nb + 1) (fun _ => 0)), (cd_fo y_firstEdge 0 (nb) (fun c => nI (cd_fs kd c))), y_tree, y_back, y_row, y_length, y_gone, y_done, y_went, y_cut, y_kept, y_mark, y_way, y_tried, y_stack)) : ∃ n24, wY_build_24 post n24 0 (nI nb) (nI nb) 0 y_paths y_many y_lastX y_lastY y_lastBlocks y_op y_number y_kind y_target y_from y_to y_exit y_weight y_firstEdge y_tree y_back y_row y_length y_gone y_done y_went y_cut y_kept y_mark y_way y_tried y_stack := by
  have hnb := hD.1
  have hfs := (cd_fs_b kd nb).2
  have H : ∀ d b, b + d = nb → wY_build_24 post (d + 1) (nI b) (nI nb) (nI nb) (nI (cd_fs kd b)) y_paths y_many y_lastX y_lastY y_lastBlocks (cd_fo y_op 12 (b) y_op) (cd_fo y_number 12 (b) y_number) (cd_fo y_kind 12 (b) y_kind) y_target (cd_fo y_from 0 (cd_fs kd b) (cd_eF kd nb)) (cd_fo y_to 0 (cd_fs kd b) (cd_eT kd tg nb)) (cd_fo y_exit 0 (cd_fs kd b) (cd_eE kd nb)) (cd_fo y_weight 0 (cd_fs kd b) (fun _ => 0)) (cd_fo y_firstEdge 0 (b) (fun c => nI (cd_fs kd c))) y_tree y_back y_row y_length y_gone y_done y_went y_cut y_kept y_mark y_way y_tried y_stack := by
    intro d
    induction d with
    | zero =>
      intro b hb
      have : b = nb := by omega
      subst this
      refine pk_le b b (fun _ => cd_yapp (by omega) cd_eFn.symm cd_eEn.symm cd_eTn.symm ?_) (fun h => absurd h (by omega))
      exact hp
    | succ d ih =>
      intro b hb
      have hlt := cd_fs_lt (kd := kd) (b := b) (c := nb) (by omega)
      obtain ⟨d1, d2, d3⟩ := hD.2.2 b (by omega)
      obtain ⟨f1, f2, f3, f4, f5⟩ := hD.2.1 b (by omega)
      rw [← hkk b (by omega)] at d1 d2 d3 f3
      have c12 : (12 : Int32) + nI b = nI (12 + b) := nI_add 12 b
      have hr := cd_ec_r (kd b)
      refine pk_le nb b (fun h => absurd h (by omega)) (fun _ => ⟨pk_in b 24 (by omega), pk_in (12 + b) 24 (by omega) c12, nm_r (cd_fo_u c12 (by omega) (by rw [cd_cl (by omega), cd_fo_out (by omega)])) ⟨pk_in b 24 (by omega), pk_in (12 + b) 24 (by omega) c12, nm_r (cd_fo_u c12 (by omega) (by rw [cd_cl (by omega), cd_fo_out (by omega)])) ⟨pk_in b 24 (by omega), pk_in (12 + b) 24 (by omega) c12, nm_r (cd_fo_u c12 (by omega) (by rw [cd_cl (by omega), cd_fo_out (by omega)])) ⟨pk_in b 13 (by omega), nm_r (cd_fo_z (by omega) rfl) ⟨cd_ec (kd b) + 1, ?_⟩⟩⟩⟩⟩)
      have K : ∀ r k, k + r = cd_ec (kd b) → wY_build_89 post (wY_build_24 post (d + 1)) (nI b) (r + 1) (nI k) (nI nb) (nI nb) (nI (cd_fs kd b + k)) y_paths y_many y_lastX y_lastY y_lastBlocks (cd_fo y_op 12 (b + 1) y_op) (cd_fo y_number 12 (b + 1) y_number) (cd_fo y_kind 12 (b + 1) y_kind) y_target (cd_fo y_from 0 (cd_fs kd b + k) (cd_eF kd nb)) (cd_fo y_to 0 (cd_fs kd b + k) (cd_eT kd tg nb)) (cd_fo y_exit 0 (cd_fs kd b + k) (cd_eE kd nb)) (cd_fo y_weight 0 (cd_fs kd b + k) (fun _ => 0)) (cd_fo y_firstEdge 0 (b + 1) (fun c => nI (cd_fs kd c))) y_tree y_back y_row y_length y_gone y_done y_went y_cut y_kept y_mark y_way y_tried y_stack := by
        intro r
        induction r with
        | zero =>
          intro k hk
          have : k = cd_ec (kd b) := by omega
          subst this
          refine ⟨pk_in b 24 (by omega), ?_⟩
          rw [cd_cl (by omega), cd_fo_out (by omega), f3]
          exact cd_yec d1 (pk_le _ _ (fun _ => nm_r (nI_1 b) (ih (b + 1) (by omega))) (fun h => absurd h (by omega)) rfl rfl (by omega) (by omega))
        | succ r ih2 =>
          intro k hk
          have c : 3 * nI b + nI k = nI (3 * b + k) := by rw [show (3 : Int32) = nI 3 from rfl, pk_mul, nI_add]
          refine ⟨pk_in b 24 (by omega), ?_⟩
          rw [cd_cl (by omega), cd_fo_out (by omega), f3]
          refine cd_yec d1 (pk_le (cd_ec (kd b)) k (fun h => absurd h (by omega)) (fun _ => ⟨pk_in b 24 (by omega), br_c (fun hz => ?_) (fun hz => ⟨pk_in (3 * b + k) 72 (by omega) c, ?_⟩)⟩))
          · have he : cd_ec (kd b) = 1 := by rw [hz]; decide
            have hk0 : k = 0 := by omega
            subst hk0
            exact cd_yapp (by omega) (cd_eFv (by omega) (by omega)).symm (cd_eEv (by omega) (by omega)).symm ((cd_eTv (by omega) (by omega)).trans (d2 hz)).symm (nm_r (nI_1 0) (ih2 1 (by omega)))
          · rw [c, cd_cl (by omega)]
            have eY : y_target (3 * b + k) = tg (3 * b + k) := by
              by_cases k0 : k = 0
              · subst k0; exact (d3 hz).1
              · by_cases k1 : k = 1
                · subst k1; exact f4
                · have : k = 2 := by omega
                  subst this; exact f5
            exact cd_yapp (by omega) (cd_eFv (by omega) (by omega)).symm (cd_eEv (by omega) (by omega)).symm ((cd_eTv (by omega) (by omega)).trans eY.symm).symm (nm_r (nI_1 k) (ih2 (k + 1) (by omega)))
      exact K (cd_ec (kd b)) 0 (by omega)
  exact Exists.intro (nb + 1) (H nb 0 (by omega))
end
