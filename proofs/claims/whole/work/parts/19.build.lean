theorem i_vc_build {k : Nat} {u : SX} {v : SY} (I : i_Rel k u v) (hk : k + 6 ≤ 3072) : wpX_build (fun r u' => wpY_build (fun r' v' => r' = r ∧ i_Rel (k + 6) u' v') v) u := by
  have I' := i_up I
  obtain ⟨x_blocks, x_builtBlocks, x_edges, x_paths, x_runX, x_runY, x_runDone, x_ops, x_operands, x_kinds, x_targets, x_builtOps, x_builtOperands, x_builtKinds, x_firstEdge, x_edgeFrom, x_edgeExit, x_edgeTo, x_edgeWeight, x_inTree, x_isBack, x_beginsPaths, x_firstPath, x_pathsFrom, x_pathsBefore, x_counts, x_dumped, x_dumpKept, x_looked, x_joined, x_met, x_nextExit, x_way⟩ := u
  obtain ⟨y_made, y_blocks, y_edges, y_paths, y_many, y_lastX, y_lastY, y_lastBlocks, y_op, y_number, y_kind, y_target, y_from, y_to, y_exit, y_weight, y_firstEdge, y_tree, y_back, y_row, y_length, y_gone, y_done, y_went, y_cut, y_kept, y_mark, y_way, y_tried, y_stack⟩ := v
  obtain ⟨n, nb, ne, np, rfl, rfl, rfl, rfl, rfl, rfl, rfl, rfl, rfl, rfl, rfl, rfl, rfl, rfl, rfl, rfl, rfl, rfl, hD, hB, hC, hK, hP⟩ := I
  have hn : n ≤ 12 := hD.1
  have none : (n = 0 ∨ ¬ cd_at n x_kinds x_targets) → wpY_build (fun r' v' => r' = -1 ∧ i_Rel (k + 6) ((nI n), (nI nb), (nI ne), (nI np), x_runX, x_runY, x_runDone, x_ops, x_operands, x_kinds, x_targets, x_builtOps, x_builtOperands, x_builtKinds, x_firstEdge, x_edgeFrom, x_edgeExit, x_edgeTo, x_edgeWeight, x_inTree, x_isBack, x_beginsPaths, x_firstPath, x_pathsFrom, x_pathsBefore, x_counts, x_dumped, x_dumpKept, x_looked, x_joined, x_met, x_nextExit, x_way) v') ((nI n), (nI nb), (nI ne), y_paths, y_many, x_runX, x_runY, x_runDone, y_op, y_number, y_kind, y_target, x_edgeFrom, x_edgeTo, x_edgeExit, x_edgeWeight, x_firstEdge, x_inTree, x_isBack, y_row, y_length, y_gone, y_done, y_went, y_cut, x_dumpKept, y_mark, y_way, y_tried, y_stack) := by
    intro h
    unfold wpY_build
    dsimp only
    refine cd_ywhole hD (fun h0 hat => ?_) (fun _ => br_t rfl ⟨rfl, I'⟩)
    rcases h with h | h
    · omega
    · exact absurd hat h
  unfold wpX_build
  dsimp only
  refine pk_eq n 0 (fun hz => none (Or.inl hz)) (fun hz => cd_xall hD (fun hat => br_f (by decide) ?_) (fun hno => br_t rfl (none (Or.inr hno))))
  have hbk : ∀ b, b < n → cd_fo x_builtKinds 0 n x_kinds b = x_kinds b := fun b hb => cd_fo_in (by omega) (by omega)
  have hm36 := (cd_fs_b (cd_fo x_builtKinds 0 n x_kinds) n).2
  refine cd_xcopy hn ?_
  dsimp only
  refine cd_xlist hn ?_
  dsimp only
  obtain ⟨BK, hBK⟩ : ∃ f, f = cd_fo x_builtKinds 0 n x_kinds := ⟨_, rfl⟩
  rw [← hBK] at hbk hm36
  rw [← hBK]
  have hto : ∀ e, e < cd_fs BK n + 1 → cd_fo x_edgeTo 0 (cd_fs BK n + 1) (cd_eT BK x_targets n) e = -1 ∨ ∃ t : Nat, t < n ∧ cd_fo x_edgeTo 0 (cd_fs BK n + 1) (cd_eT BK x_targets n) e = nI t := by
    intro e he
    rw [cd_fo_in (by omega) (by omega), Nat.sub_zero]
    by_cases g : e < cd_fs BK n
    · obtain ⟨b, j, h1, h2, h3⟩ := cd_ewh n e g
      rw [h3, cd_eTv h1 h2]
      by_cases hz0 : x_kinds b = 0
      · have he1 : cd_ec (BK b) = 1 := by rw [hbk b h1, hz0]; decide
        have hj0 : j = 0 := by omega
        subst hj0
        exact Or.inl ((hD.2.2 b h1).2.1 hz0)
      · rw [hbk b h1] at h2
        exact Or.inr (hat b h1 hz0 j h2)
    · have : e = cd_fs BK n := by omega
      rw [this, cd_eTn]
      exact Or.inr ⟨0, by omega, rfl⟩
  have hfr : ∀ e, e < cd_fs BK n + 1 → cd_fo x_edgeFrom 0 (cd_fs BK n + 1) (cd_eF BK n) e = -1 ∨ ∃ t : Nat, t < n ∧ cd_fo x_edgeFrom 0 (cd_fs BK n + 1) (cd_eF BK n) e = nI t := by
    intro e he
    rw [cd_fo_in (by omega) (by omega), Nat.sub_zero]
    by_cases g : e < cd_fs BK n
    · obtain ⟨b, j, h1, h2, h3⟩ := cd_ewh n e g
      rw [h3, cd_eFv h1 h2]
      exact Or.inr ⟨b, h1, rfl⟩
    · have : e = cd_fs BK n := by omega
      rw [this, cd_eFn]
      exact Or.inl rfl
  have hfe : ∀ b, b < n → cd_fo x_firstEdge 0 n (fun c => nI (cd_fs BK c)) b = nI (cd_fs BK b) := fun b hb => cd_fo_in (by omega) (by omega)
  have hk6 : ∀ b, b < n → ∃ j : Nat, j < 6 ∧ BK b = nI j := fun b hb => by rw [hbk b hb]; exact (hD.2.2 b hb).1
  have hkd : ∀ b, b < n → cd_fo y_kind 12 n y_kind (12 + b) = BK b ∧ ∃ j : Nat, j < 6 ∧ BK b = nI j := by
    intro b hb
    rw [cd_fo_k hb, (hD.2.1 b (by omega)).2.2.1, hbk b hb]
    exact ⟨rfl, (hD.2.2 b hb).1⟩
  obtain ⟨TO, hTO⟩ : ∃ f, f = cd_fo x_edgeTo 0 (cd_fs BK n + 1) (cd_eT BK x_targets n) := ⟨_, rfl⟩
  obtain ⟨FR, hFR⟩ : ∃ f, f = cd_fo x_edgeFrom 0 (cd_fs BK n + 1) (cd_eF BK n) := ⟨_, rfl⟩
  rw [← hTO] at hto
  rw [← hFR] at hfr
  rw [← hTO, ← hFR]
  have hB2 : cd_B n (cd_fs BK n + 1) (cd_fo x_builtOps 0 n x_ops) (cd_fo x_builtOperands 0 n x_operands) BK (cd_fo x_firstEdge 0 n (fun c => nI (cd_fs BK c))) FR TO (cd_fo y_op 12 n y_op) (cd_fo y_number 12 n y_number) (cd_fo y_kind 12 n y_kind) := by
    refine ⟨hn, Or.inr ⟨by omega, rfl⟩, fun b hb => ?_, fun e he => ⟨hto e he, hfr e he⟩⟩
    obtain ⟨g1, g2, g3, g4, g5⟩ := hD.2.1 b (by omega)
    refine ⟨?_, ?_, (hkd b hb).1, hk6 b hb, hfe b hb⟩
    · rw [cd_fo_k hb, cd_fo_in (by omega) (by omega), Nat.sub_zero]; exact g1
    · rw [cd_fo_k hb, cd_fo_in (by omega) (by omega), Nat.sub_zero]; exact g2
  obtain ⟨b1, b2, b3⟩ := cd_B37 hB2 rfl
  have hD2 : cd_D n x_ops x_operands x_kinds x_targets (cd_fo y_op 12 n y_op) (cd_fo y_number 12 n y_number) (cd_fo y_kind 12 n y_kind) y_target := by
    refine ⟨hn, fun i hi => ?_, hD.2.2⟩
    rw [cd_fo_out (by omega), cd_fo_out (by omega), cd_fo_out (by omega)]
    exact hD.2.1 i hi
  refine cd_xfb (y_made := nI n) (y_blocks := nI n) (y_paths := y_paths) (y_many := y_many) (y_lastX := 0) (y_lastY := 0) (y_lastBlocks := 0) (y_op := cd_fo y_op 12 n y_op) (y_number := cd_fo y_number 12 n y_number) (y_kind := cd_fo y_kind 12 n y_kind) (y_target := y_target) (y_from := FR) (y_exit := cd_fo x_edgeExit 0 (cd_fs BK n + 1) (cd_eE BK n)) (y_weight := cd_fo x_edgeWeight 0 (cd_fs BK n + 1) (fun _ => 0)) (y_tree := x_inTree) (y_back := x_isBack) (y_row := y_row) (y_length := y_length) (y_gone := y_gone) (y_done := y_done) (y_went := y_went) (y_cut := y_cut) (y_kept := x_dumpKept) (y_mark := y_mark) (y_way := y_way) (y_tried := y_tried) (y_stack := y_stack) hn (by omega) hfe hkd hto rfl (fun L rk G ib pf pb met nx way hG hN hLt hYfb => ?_)
  dsimp only
  refine cd_xnum (G := G) (L := L) hn (by omega) (fun e he hz2 => ?_) hG.1 (fun b hb hl => (hN b hb hl).1) (fun bg fp hPB hL hF => ?_)
  · by_cases g : e < cd_fs BK n
    · obtain ⟨b, j, h1, h2, h3⟩ := cd_ewh n e g
      rw [h3] at hz2 ⊢
      exact hLt b j h1 h2 hz2
    · have : e = cd_fs BK n := by omega
      refine ⟨0, by omega, ?_, hG.1⟩
      rw [this, hTO, cd_fo_in (by omega) (by omega), Nat.sub_zero, cd_eTn]
      rfl
  dsimp only
  refine cd_xtree b1 b2 b3 (fun s hs => ?_)
  dsimp only
  refine cd_xforget ?_
  dsimp only
  unfold wpY_build
  dsimp only
  refine cd_ywhole hD (fun _ _ => br_f (by decide) ?_) (fun h => ?_)
  · refine cd_ylist (kd := BK) (tg := x_targets) hD hbk ?_
    rw [← hTO, ← hFR]
    refine hYfb _ (fun mk tr st => ?_)
    dsimp only
    refine cd_yfp (bk := BK) (pf := pf) (pb := pb) (bg := bg) (L := L) (rk := rk) (G := G) hn (Nat.le_refl _) (by omega) (fun b hb => ⟨(hkd b hb).1, hk6 b hb, hfe b hb⟩) hG hN hL hPB (fun ny mn row len wy tr2 st2 hm hPR => ?_)
    refine cd_yrenew b1 b2 b3 (fun e he => cd_fo_in (by omega) (by omega)) (fun p hp => cd_fo_in (by omega) (by omega)) hs (fun mk2 => ⟨rfl, ?_⟩)
    refine cd_mk n n (cd_fs BK n + 1) (cd_fp bg G n) hD2 hB2 (cd_C0 (cut0 := y_cut)) cd_K0 ⟨fun h => absurd h hz, fun _ => ⟨L, rk, G, hG, hN, hPB, hL, hF, rfl, ny, rfl, hm, hPR⟩⟩
  · rcases h with h | h
    · exact absurd h hz
    · exact absurd hat h
