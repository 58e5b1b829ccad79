section
variable {x_blocks x_builtBlocks x_edges x_paths x_runX x_runY x_runDone : Int32} {x_ops x_operands x_kinds x_targets x_builtOps x_builtOperands x_builtKinds x_firstEdge x_edgeFrom x_edgeExit x_edgeTo x_edgeWeight x_inTree x_isBack x_beginsPaths x_firstPath x_pathsFrom x_pathsBefore x_counts x_dumped x_dumpKept x_looked x_joined x_met x_nextExit x_way : Nat → Int32}
theorem cd_xpe {post : Int32 → Prop} {v2 : Int32} {nb : Nat} {L : Nat → Prop} {rk G : Nat → Nat} (hnb : nb ≤ 12) (hG : cd_PG nb x_builtKinds x_edgeTo x_isBack L rk) (hN : cd_PN nb x_builtKinds x_edgeTo x_isBack x_pathsFrom x_pathsBefore L rk G) (hfe : ∀ b, b < nb → x_firstEdge b = nI (cd_fs x_builtKinds b)) :
    ∀ l b j, b < nb → L b → cd_vp x_builtKinds x_edgeTo x_isBack b l → j + l.length ≤ nb → (∀ i (h : i < l.length), v2 = nI (j + i) → post (nI l[i])) → ((∀ i, i < l.length → ¬ v2 = nI (j + i)) → post (-1)) → ∃ n, wX_pathEdge_29 post v2 x_blocks (nI nb) x_edges x_paths x_runX x_runY x_runDone x_ops x_operands x_kinds x_targets x_builtOps x_builtOperands x_builtKinds x_firstEdge x_edgeFrom x_edgeExit x_edgeTo x_edgeWeight x_inTree x_isBack x_beginsPaths x_firstPath x_pathsFrom x_pathsBefore x_counts x_dumped x_dumpKept x_looked x_joined x_met x_nextExit x_way n (nI b) (nI (cd_es x_pathsBefore l)) (nI j)
  | [], b, _, _, _, h, _, _, _ => absurd h (by unfold cd_vp; exact id)
  | e :: l, b, j, hb, hl, h, hj, hp1, hp0 => by
    have hj' : j + (l.length + 1) ≤ nb := hj
    have hlt := cd_es_lt hG hN hnb (e :: l) b hb hl h
    have hrec := fun (t : Nat) => cd_xpe (post := post) (v2 := v2) hnb hG hN hfe l t (j + 1)
    unfold cd_vp at h
    obtain ⟨⟨k, hk, rfl⟩, h⟩ := h
    obtain ⟨p1, p2, p3, p4⟩ := cd_pbv hG hN hnb hb hl hk
    have h36 : cd_fs x_builtKinds b + cd_ec (x_builtKinds b) ≤ 36 := by
      have h1 := cd_fs_lt (kd := x_builtKinds) hb
      have h2 := (cd_fs_b x_builtKinds nb).2
      omega
    have hes : cd_es x_pathsBefore ((cd_fs x_builtKinds b + k) :: l) = cd_sm (cd_wt x_builtKinds x_edgeTo x_isBack G b) k + cd_es x_pathsBefore l := by
      show (x_pathsBefore (cd_fs x_builtKinds b + k)).toNatClampNeg + _ = _
      rw [p1]
    rw [hes]
    rw [hes] at hlt
    have b1 : cd_es x_pathsBefore l < cd_wt x_builtKinds x_edgeTo x_isBack G b k := by
      rcases h with ⟨hx, rfl⟩ | ⟨hn, hv⟩
      · rw [cd_wt1 hx]; exact Nat.zero_lt_one
      · obtain ⟨t, ht, e1, e2, lt, r, ew, _⟩ := cd_nx1 (G := G) hG hnb hb hl hk hn
        rw [e2] at hv
        rw [ew]; exact cd_es_lt hG hN hnb l t ht lt hv
    have on : ∀ {P : Int32 → Prop}, P (nI (cd_fs x_builtKinds b + k)) → wpX_edgeOnPath P (x_blocks, (nI nb), x_edges, x_paths, x_runX, x_runY, x_runDone, x_ops, x_operands, x_kinds, x_targets, x_builtOps, x_builtOperands, x_builtKinds, x_firstEdge, x_edgeFrom, x_edgeExit, x_edgeTo, x_edgeWeight, x_inTree, x_isBack, x_beginsPaths, x_firstPath, x_pathsFrom, x_pathsBefore, x_counts, x_dumped, x_dumpKept, x_looked, x_joined, x_met, x_nextExit, x_way) (nI b) (nI (cd_sm (cd_wt x_builtKinds x_edgeTo x_isBack G b) k + cd_es x_pathsBefore l)) := fun hP =>
      cd_xedgeon (SM := cd_sm (cd_wt x_builtKinds x_edgeTo x_isBack G b)) (by omega) (hfe b hb) hk h36 (by omega) (fun i hi => by
        obtain ⟨q1, q2, q3, q4⟩ := cd_pbv hG hN hnb hb hl hi
        exact ⟨q2, by omega⟩) (by omega) (fun i h1 h2 => by
        have := cd_sm_st (f := cd_wt x_builtKinds x_edgeTo x_isBack G b) h1
        omega) hP
    by_cases hv2 : nI j = v2
    · refine ⟨1, pk_le nb j (fun z => absurd z (by omega)) (fun _ => on (br_t hv2 ?_))⟩
      exact hp1 0 (Nat.zero_lt_succ _) hv2.symm
    · by_cases hen : cd_en x_isBack x_edgeTo (cd_fs x_builtKinds b + k)
      · refine ⟨1, pk_le nb j (fun z => absurd z (by omega)) (fun _ => on (br_f hv2 (cd_xend rfl (by omega) (fun _ => br_f (by decide) (hp0 (fun i hi => ?_))) (fun z => absurd hen z))))⟩
        rcases h with ⟨hx, rfl⟩ | ⟨hn, hv⟩
        · have : i = 0 := by
            have hi' : i < 0 + 1 := hi
            omega
          subst this
          exact fun z => hv2 z.symm
        · exact absurd hen hn
      · rcases h with ⟨hx, _⟩ | ⟨hn, hv⟩
        · exact absurd hx hen
        · obtain ⟨t, ht, e1, e2, lt, r, ew, _⟩ := cd_nx1 (G := G) hG hnb hb hl hk hn
          rw [e2] at hv
          obtain ⟨n, hn2⟩ := hrec t ht lt hv (by omega) (fun i hi ev => by
              have := hp1 (i + 1) (Nat.succ_lt_succ hi) (by rw [ev]; exact congrArg nI (by omega))
              exact this) (fun hno => hp0 (fun i hi z => by
              cases i with
              | zero => exact hv2 z.symm
              | succ i => exact hno i (Nat.lt_of_succ_lt_succ hi) (by rw [z]; exact congrArg nI (by omega))))
          refine ⟨n + 1, pk_le nb j (fun z => absurd z (by omega)) (fun _ => on (br_f hv2 (cd_xend rfl (by omega) (fun z => absurd z hen) (fun _ => br_t rfl ⟨pk_in (cd_fs x_builtKinds b + k) 37 (by omega), ?_⟩))))⟩
          rw [cd_cl (by omega)]
          refine nm_r (e' := nI (cd_es x_pathsBefore l)) ?_ ⟨pk_in (cd_fs x_builtKinds b + k) 37 (by omega), nm_r e1 (nm_r (nI_1 j) hn2)⟩
          rw [p2, pk_sub (by omega)]
          exact congrArg nI (by omega)
end
theorem i_vc_pathEdge {k : Nat} {u : SX} {v : SY} (I : i_Rel k u v) (hk : k + 6 ≤ 3072) (v1 : Int32) (v2 : Int32) : wpX_pathEdge (fun r => wpY_pathEdge (fun r' => r' = r ∧ i_Rel (k + 6) u v) v v1 v2) u v1 v2 := by
  have I' := i_up I
  obtain ⟨x_blocks, x_builtBlocks, x_edges, x_paths, x_runX, x_runY, x_runDone, x_ops, x_operands, x_kinds, x_targets, x_builtOps, x_builtOperands, x_builtKinds, x_firstEdge, x_edgeFrom, x_edgeExit, x_edgeTo, x_edgeWeight, x_inTree, x_isBack, x_beginsPaths, x_firstPath, x_pathsFrom, x_pathsBefore, x_counts, x_dumped, x_dumpKept, x_looked, x_joined, x_met, x_nextExit, x_way⟩ := u
  obtain ⟨y_made, y_blocks, y_edges, y_paths, y_many, y_lastX, y_lastY, y_lastBlocks, y_op, y_number, y_kind, y_target, y_from, y_to, y_exit, y_weight, y_firstEdge, y_tree, y_back, y_row, y_length, y_gone, y_done, y_went, y_cut, y_kept, y_mark, y_way, y_tried, y_stack⟩ := v
  obtain ⟨n, nb, ne, np, rfl, rfl, rfl, rfl, rfl, rfl, rfl, rfl, rfl, rfl, rfl, rfl, rfl, rfl, rfl, rfl, rfl, rfl, hD, hB, hC, hK, hP⟩ := I
  have hne := cd_ne hB
  by_cases hz : nb = 0
  · have hz2 := hP.1 hz
    subst hz2
    have e0 : ne = 0 := by omega
    unfold wpX_pathEdge wpX_isPath wpY_pathEdge
    dsimp only
    refine br_c (fun h => ?_) (fun h => ?_)
    · exact br_t rfl (pk_le ne 0 (fun _ => ⟨rfl, I'⟩) (fun z => absurd z (by omega)))
    · obtain ⟨j, hj, rfl⟩ := nI_of h
      exact pk_le 0 j (fun _ => br_t rfl (pk_le ne 0 (fun _ => ⟨rfl, I'⟩) (fun z => absurd z (by omega)))) (fun z => absurd z (by omega))
  · obtain ⟨L, rk, G, hG, hN, hPB, hL, hF, hnp, ny, rfl, ho, hR⟩ := hP.2 (by omega)
    have hnb : nb ≤ 12 := hne.1
    have hnp2 : np ≤ 6377292 := by rw [hnp]; exact cd_fp3 hG hN hL hnb (Nat.le_refl nb)
    unfold wpX_pathEdge wpX_isPath wpX_tooManyPaths
    dsimp only
    have Y0 : (y_many = 0 → ∀ t : Nat, t < ny → ¬ v1 = nI t) → wpY_pathEdge (fun r' => r' = -1 ∧ i_Rel (k + 6) ((nI n), (nI nb), (nI ne), (nI np), x_runX, x_runY, x_runDone, x_ops, x_operands, x_kinds, x_targets, x_builtOps, x_builtOperands, x_builtKinds, x_firstEdge, x_edgeFrom, x_edgeExit, x_edgeTo, x_edgeWeight, x_inTree, x_isBack, x_beginsPaths, x_firstPath, x_pathsFrom, x_pathsBefore, x_counts, x_dumped, x_dumpKept, x_looked, x_joined, x_met, x_nextExit, x_way) ((nI n), (nI nb), (nI ne), (nI ny), y_many, x_runX, x_runY, x_runDone, y_op, y_number, y_kind, y_target, x_edgeFrom, x_edgeTo, x_edgeExit, x_edgeWeight, x_firstEdge, x_inTree, x_isBack, y_row, y_length, y_gone, y_done, y_went, y_cut, x_dumpKept, y_mark, y_way, y_tried, y_stack)) ((nI n), (nI nb), (nI ne), (nI ny), y_many, x_runX, x_runY, x_runDone, y_op, y_number, y_kind, y_target, x_edgeFrom, x_edgeTo, x_edgeExit, x_edgeWeight, x_firstEdge, x_inTree, x_isBack, y_row, y_length, y_gone, y_done, y_went, y_cut, x_dumpKept, y_mark, y_way, y_tried, y_stack) v1 v2 := fun hb =>
      pk_le ne 0 (fun z => absurd z (by omega)) (fun _ => br_c (fun hm => cd_yin rfl (by omega) (fun _ => br_t rfl ⟨rfl, I'⟩) (fun t ht e => absurd e (hb hm t ht))) (fun _ => ⟨rfl, I'⟩))
    refine br_c (fun h => ?_) (fun h => ?_)
    · refine br_t rfl (Y0 (fun _ t ht e => ?_))
      subst e; exact absurd h (nI_pos (by omega))
    · obtain ⟨j, hj, rfl⟩ := nI_of h
      refine pk_le np j (fun h1 => ?_) (fun h1 => ?_)
      · refine br_t rfl (Y0 (fun hm t ht e => ?_))
        rw [nI_eq hj (by omega)] at e
        rcases ho with ho | ho
        · omega
        · exact ho.1 hm
      · refine pk_le np 300 (fun h3 => ?_) (fun h3 => ?_)
        · have ho' : y_many = 0 ∧ ny = np ∧ np ≤ 300 := by
            rcases ho with ho | ho
            · exact ho
            · omega
          obtain ⟨b, l, hb, hbg, hvp, hpn, hrw⟩ := hR j (by omega)
          have hlb := hL b hb hbg
          have hlen := cd_vp_len hG hnb l b hb hlb hvp
          have hrk := (hG.2 b hb hlb).1
          have heslt := cd_es_lt hG hN hnb l b hb hlb hvp
          have hfpb := cd_fp3 hG hN hL hnb (Nat.le_of_lt hb)
          have Yv : ∀ (r : Int32), ((∀ i (h : i < l.length), v2 = nI i → nI l[i] = r) ∧ ((∀ i, i < l.length → ¬ v2 = nI i) → -1 = r)) → wpY_pathEdge (fun r' => r' = r ∧ i_Rel (k + 6) ((nI n), (nI nb), (nI ne), (nI np), x_runX, x_runY, x_runDone, x_ops, x_operands, x_kinds, x_targets, x_builtOps, x_builtOperands, x_builtKinds, x_firstEdge, x_edgeFrom, x_edgeExit, x_edgeTo, x_edgeWeight, x_inTree, x_isBack, x_beginsPaths, x_firstPath, x_pathsFrom, x_pathsBefore, x_counts, x_dumped, x_dumpKept, x_looked, x_joined, x_met, x_nextExit, x_way) ((nI n), (nI nb), (nI ne), (nI ny), y_many, x_runX, x_runY, x_runDone, y_op, y_number, y_kind, y_target, x_edgeFrom, x_edgeTo, x_edgeExit, x_edgeWeight, x_firstEdge, x_inTree, x_isBack, y_row, y_length, y_gone, y_done, y_went, y_cut, x_dumpKept, y_mark, y_way, y_tried, y_stack)) ((nI n), (nI nb), (nI ne), (nI ny), y_many, x_runX, x_runY, x_runDone, y_op, y_number, y_kind, y_target, x_edgeFrom, x_edgeTo, x_edgeExit, x_edgeWeight, x_firstEdge, x_inTree, x_isBack, y_row, y_length, y_gone, y_done, y_went, y_cut, x_dumpKept, y_mark, y_way, y_tried, y_stack) (nI j) v2 := by
            intro r hr
            refine pk_le ne 0 (fun z => absurd z (by omega)) (fun _ => br_t ho'.1 (cd_yin rfl (by omega) (fun hc => absurd rfl (hc j (by omega))) (fun t ht e => br_f (by decide) ⟨pk_in j 300 (by omega), ?_⟩)))
            rw [nI_clamp hj, hrw.1]
            refine cd_yin rfl (by omega) (fun hc => br_t rfl ⟨hr.2 hc, I'⟩) (fun i hi e => br_f (by decide) ?_)
            have c : 12 * nI j + v2 = nI (12 * j + i) := by rw [e, show (12 : Int32) = nI 12 from rfl, pk_mul, nI_add]
            refine ⟨pk_in _ 3600 (by omega) c, ?_, I'⟩
            rw [c, cd_cl (by omega), hrw.2 i hi]
            exact hr.1 i hi e
          refine br_t rfl (br_f (by decide) (cd_xbegin (FP := cd_fp x_beginsPaths G) hnb hb (by omega) (fun c hc => ⟨hF c hc, by have := cd_fp3 hG hN hL hnb (Nat.le_of_lt hc); omega⟩) (fun c h1 h2 h3 => by have := cd_fp_st (G := G) h1 hbg; omega) ⟨hbg, by omega⟩ ⟨pk_in b 12 (by omega), ?_⟩))
          rw [cd_cl (by omega)]
          refine nm_r (e' := nI (cd_es x_pathsBefore l)) (by rw [hF b hb, pk_sub (by omega)]; exact congrArg nI (by omega)) ?_
          refine cd_xpe hnb hG hN (fun b hb => (hB.2.2.1 b hb).2.2.2.2) l b 0 hb hlb hvp (by omega) (fun i hi e => Yv _ ⟨fun i' hi' e' => ?_, fun hc => absurd (by rw [e, Nat.zero_add]) (hc i hi)⟩) (fun hno => Yv _ ⟨fun i hi e => absurd (by rw [Nat.zero_add]; exact e) (hno i hi), fun _ => rfl⟩)
          rw [e, nI_eq (by omega) (by omega)] at e'
          have : i = i' := by omega
          subst this
          rfl
        · refine br_f (by decide) (br_t rfl (Y0 (fun hm => ?_)))
          rcases ho with ho | ho
          · omega
          · exact absurd hm ho.1
