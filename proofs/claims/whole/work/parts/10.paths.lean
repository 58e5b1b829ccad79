section
variable {nb : Nat} {bk to ib pf pb bg : Nat → Int32} {L : Nat → Prop} {rk G : Nat → Nat}
/-- over an edge that does not end the path -/
theorem cd_nx1 (hG : cd_PG nb bk to ib L rk) (hnb : nb ≤ 12) {b k : Nat} (hb : b < nb) (hl : L b) (hk : k < cd_ec (bk b)) (hn : ¬ cd_en ib to (cd_fs bk b + k)) : ∃ t : Nat, t < nb ∧ to (cd_fs bk b + k) = nI t ∧ (to (cd_fs bk b + k)).toNatClampNeg = t ∧ L t ∧ rk t < rk b ∧ cd_wt bk to ib G b k = G t ∧ ib (cd_fs bk b + k) = 0 := by
  have h1 : ib (cd_fs bk b + k) = 0 := Decidable.byContradiction (fun z => hn (Or.inl z))
  have h2 : ¬ to (cd_fs bk b + k) = -1 := fun z => hn (Or.inr z)
  obtain ⟨t, ht, e, lt, r⟩ := ((hG.2 b hb hl).2 k hk).resolve_left h2
  have c : (to (cd_fs bk b + k)).toNatClampNeg = t := by rw [e, cd_cl (by omega)]
  refine ⟨t, ht, e, c, lt, r h1, ?_, h1⟩
  unfold cd_wt
  rw [if_pos ⟨h1, h2⟩, c]
theorem cd_wt1 {b k : Nat} (h : cd_en ib to (cd_fs bk b + k)) : cd_wt bk to ib G b k = 1 := by
  unfold cd_wt
  refine if_neg (fun z => ?_)
  rcases h with h | h
  · exact h z.1
  · exact z.2 h
theorem cd_pbv (hG : cd_PG nb bk to ib L rk) (hN : cd_PN nb bk to ib pf pb L rk G) (hnb : nb ≤ 12) {b k : Nat} (hb : b < nb) (hl : L b) (hk : k < cd_ec (bk b)) : (pb (cd_fs bk b + k)).toNatClampNeg = cd_sm (cd_wt bk to ib G b) k ∧ pb (cd_fs bk b + k) = nI (cd_sm (cd_wt bk to ib G b) k) ∧ cd_sm (cd_wt bk to ib G b) k + cd_wt bk to ib G b k ≤ G b ∧ G b ≤ 531441 := by
  obtain ⟨n1, n2, n3, n4⟩ := hN b hb hl
  have h1 := cd_G3 hG hN hnb hb hl
  have h2 := cd_sm_st (f := cd_wt bk to ib G b) hk
  rw [← n2] at h2
  refine ⟨?_, n4 k hk, h2, h1⟩
  rw [n4 k hk, cd_cl (by omega)]
theorem cd_vp_len (hG : cd_PG nb bk to ib L rk) (hnb : nb ≤ 12) : ∀ l b, b < nb → L b → cd_vp bk to ib b l → l.length ≤ rk b + 1
  | [], b, _, _, h => absurd h (by unfold cd_vp; exact id)
  | e :: l, b, hb, hl, h => by
    unfold cd_vp at h
    obtain ⟨⟨k, hk, rfl⟩, h⟩ := h
    rcases h with ⟨_, rfl⟩ | ⟨hn, hv⟩
    · show 1 ≤ rk b + 1
      omega
    · obtain ⟨t, ht, e1, e2, lt, r, _⟩ := cd_nx1 (G := rk) hG hnb hb hl hk hn
      rw [e2] at hv
      have := cd_vp_len hG hnb l t ht lt hv
      show l.length + 1 ≤ rk b + 1
      omega
theorem cd_vp_37 (hG : cd_PG nb bk to ib L rk) (hnb : nb ≤ 12) : ∀ l b, b < nb → L b → cd_vp bk to ib b l → ∀ x, x ∈ l → x < 37
  | [], b, _, _, h => absurd h (by unfold cd_vp; exact id)
  | e :: l, b, hb, hl, h => by
    unfold cd_vp at h
    obtain ⟨⟨k, hk, rfl⟩, h⟩ := h
    have h1 := cd_fs_lt (kd := bk) hb
    have h2 := (cd_fs_b bk nb).2
    intro x hx
    rcases List.mem_cons.mp hx with rfl | hx
    · omega
    rcases h with ⟨_, rfl⟩ | ⟨hn, hv⟩
    · exact absurd hx (by simp)
    · obtain ⟨t, ht, e1, e2, lt, r, _⟩ := cd_nx1 (G := rk) hG hnb hb hl hk hn
      rw [e2] at hv
      exact cd_vp_37 hG hnb l t ht lt hv x hx
theorem cd_es_lt (hG : cd_PG nb bk to ib L rk) (hN : cd_PN nb bk to ib pf pb L rk G) (hnb : nb ≤ 12) : ∀ l b, b < nb → L b → cd_vp bk to ib b l → cd_es pb l < G b
  | [], b, _, _, h => absurd h (by unfold cd_vp; exact id)
  | e :: l, b, hb, hl, h => by
    unfold cd_vp at h
    obtain ⟨⟨k, hk, rfl⟩, h⟩ := h
    obtain ⟨p1, p2, p3, p4⟩ := cd_pbv hG hN hnb hb hl hk
    show (pb (cd_fs bk b + k)).toNatClampNeg + cd_es pb l < G b
    rw [p1]
    rcases h with ⟨he, rfl⟩ | ⟨hn, hv⟩
    · rw [cd_wt1 he] at p3
      show _ + 0 < G b
      omega
    · obtain ⟨t, ht, e1, e2, lt, r, ew, _⟩ := cd_nx1 (G := G) hG hnb hb hl hk hn
      rw [e2] at hv
      have := cd_es_lt hG hN hnb l t ht lt hv
      omega
theorem cd_es_inj (hG : cd_PG nb bk to ib L rk) (hN : cd_PN nb bk to ib pf pb L rk G) (hnb : nb ≤ 12) : ∀ l b l', b < nb → L b → cd_vp bk to ib b l → cd_vp bk to ib b l' → cd_es pb l = cd_es pb l' → l = l'
  | [], b, _, _, _, h, _, _ => absurd h (by unfold cd_vp; exact id)
  | _ :: _, b, [], _, _, _, h, _ => absurd h (by unfold cd_vp; exact id)
  | e :: l, b, e' :: l', hb, hl, h, h', he => by
    have hlt := cd_es_lt hG hN hnb (e :: l) b hb hl h
    unfold cd_vp at h h'
    obtain ⟨⟨k, hk, rfl⟩, h⟩ := h
    obtain ⟨⟨k', hk', rfl⟩, h'⟩ := h'
    obtain ⟨p1, p2, p3, p4⟩ := cd_pbv hG hN hnb hb hl hk
    obtain ⟨q1, q2, q3, q4⟩ := cd_pbv hG hN hnb hb hl hk'
    have he2 : (pb (cd_fs bk b + k)).toNatClampNeg + cd_es pb l = (pb (cd_fs bk b + k')).toNatClampNeg + cd_es pb l' := he
    rw [p1, q1] at he2
    have b1 : cd_es pb l < cd_wt bk to ib G b k := by
      rcases h with ⟨hx, rfl⟩ | ⟨hn, hv⟩
      · rw [cd_wt1 hx]; exact Nat.zero_lt_one
      · obtain ⟨t, ht, e1, e2, lt, r, ew, _⟩ := cd_nx1 (G := G) hG hnb hb hl hk hn
        rw [e2] at hv
        rw [ew]; exact cd_es_lt hG hN hnb l t ht lt hv
    have b2 : cd_es pb l' < cd_wt bk to ib G b k' := by
      rcases h' with ⟨hx, rfl⟩ | ⟨hn, hv⟩
      · rw [cd_wt1 hx]; exact Nat.zero_lt_one
      · obtain ⟨t, ht, e1, e2, lt, r, ew, _⟩ := cd_nx1 (G := G) hG hnb hb hl hk' hn
        rw [e2] at hv
        rw [ew]; exact cd_es_lt hG hN hnb l' t ht lt hv
    have hkk : k = k' := by
      by_cases g1 : k < k'
      · have := cd_sm_st (f := cd_wt bk to ib G b) g1
        omega
      · by_cases g2 : k' < k
        · have := cd_sm_st (f := cd_wt bk to ib G b) g2
          omega
        · omega
    subst hkk
    rcases h with ⟨hx, rfl⟩ | ⟨hn, hv⟩
    · rcases h' with ⟨hx', rfl⟩ | ⟨hn', hv'⟩
      · rfl
      · exact absurd hx hn'
    · rcases h' with ⟨hx', rfl⟩ | ⟨hn', hv'⟩
      · exact absurd hx' hn
      · obtain ⟨t, ht, e1, e2, lt, r, ew, _⟩ := cd_nx1 (G := G) hG hnb hb hl hk hn
        rw [e2] at hv hv'
        rw [cd_es_inj hG hN hnb l t l' ht lt hv hv' (by omega)]
/-- the number tells the begin -/
theorem cd_fp_st {b c : Nat} (h : b < c) (hb : bg b ≠ 0) : cd_fp bg G b + G b ≤ cd_fp bg G c := by
  have := cd_sm_st (f := fun c => if bg c = 0 then 0 else G c) h
  rw [if_neg hb] at this
  exact this
theorem cd_num_inj (hG : cd_PG nb bk to ib L rk) (hN : cd_PN nb bk to ib pf pb L rk G) (hnb : nb ≤ 12) (hL : ∀ b, b < nb → bg b ≠ 0 → L b) {b b' : Nat} {l l' : List Nat} (hb : b < nb) (hb' : b' < nb) (h1 : bg b ≠ 0) (h1' : bg b' ≠ 0) (hv : cd_vp bk to ib b l) (hv' : cd_vp bk to ib b' l') (he : cd_fp bg G b + cd_es pb l = cd_fp bg G b' + cd_es pb l') : b = b' ∧ l = l' := by
  have i1 := cd_es_lt hG hN hnb l b hb (hL b hb h1) hv
  have i2 := cd_es_lt hG hN hnb l' b' hb' (hL b' hb' h1') hv'
  have hbb : b = b' := by
    by_cases g1 : b < b'
    · have := cd_fp_st (G := G) g1 h1
      omega
    · by_cases g2 : b' < b
      · have := cd_fp_st (G := G) g2 h1'
        omega
      · omega
  subst hbb
  exact ⟨rfl, cd_es_inj hG hN hnb l b l' hb (hL b hb h1) hv hv' (by omega)⟩
theorem cd_rw_u {row len : Nat → Int32} {p : Nat} {l l' : List Nat} (h : cd_rw row len p l) (h' : cd_rw row len p l') (h1 : l.length < 1000) (h1' : l'.length < 1000) (h2 : ∀ x, x ∈ l → x < 1000) (h2' : ∀ x, x ∈ l' → x < 1000) : l = l' := by
  have e := h.1.symm.trans h'.1
  rw [nI_eq (by omega) (by omega)] at e
  refine List.ext_getElem e (fun i hi hi' => ?_)
  have g := (h.2 i hi).symm.trans (h'.2 i hi')
  have g1 := h2 _ (List.getElem_mem hi)
  have g2 := h2' _ (List.getElem_mem hi')
  rwa [nI_eq (by omega) (by omega)] at g
/-- a way that has not ended -/
def cd_ch (bk to ib : Nat → Int32) : Nat → List Nat → Nat → Prop
  | b, [], c => b = c
  | b, e :: l, c => (∃ k, k < cd_ec (bk b) ∧ e = cd_fs bk b + k) ∧ ¬ cd_en ib to e ∧ cd_ch bk to ib (to e).toNatClampNeg l c
theorem cd_ch_vp {e : Nat} : ∀ l b c, cd_ch bk to ib b l c → (∃ k, k < cd_ec (bk c) ∧ e = cd_fs bk c + k) → cd_en ib to e → cd_vp bk to ib b (l ++ [e])
  | [], b, c, h, hk, he => by
    unfold cd_ch at h
    subst h
    show cd_vp bk to ib b [e]
    unfold cd_vp
    exact ⟨hk, Or.inl ⟨he, rfl⟩⟩
  | f :: l, b, c, h, hk, he => by
    unfold cd_ch at h
    show cd_vp bk to ib b (f :: (l ++ [e]))
    unfold cd_vp
    exact ⟨h.1, Or.inr ⟨h.2.1, cd_ch_vp l _ c h.2.2 hk he⟩⟩
theorem cd_ch_s {e : Nat} : ∀ l b c, cd_ch bk to ib b l c → (∃ k, k < cd_ec (bk c) ∧ e = cd_fs bk c + k) → ¬ cd_en ib to e → cd_ch bk to ib b (l ++ [e]) (to e).toNatClampNeg
  | [], b, c, h, hk, he => by
    unfold cd_ch at h
    subst h
    show cd_ch bk to ib b [e] _
    unfold cd_ch
    exact ⟨hk, he, by unfold cd_ch; rfl⟩
  | f :: l, b, c, h, hk, he => by
    unfold cd_ch at h
    show cd_ch bk to ib b (f :: (l ++ [e])) _
    unfold cd_ch
    exact ⟨h.1, h.2.1, cd_ch_s l _ c h.2.2 hk he⟩
theorem cd_es_s {e : Nat} : ∀ l, cd_es pb (l ++ [e]) = cd_es pb l + (pb e).toNatClampNeg
  | [] => by
    show (pb e).toNatClampNeg + 0 = 0 + _
    omega
  | f :: l => by
    show (pb f).toNatClampNeg + cd_es pb (l ++ [e]) = (pb f).toNatClampNeg + cd_es pb l + _
    rw [cd_es_s l]
    omega
theorem cd_ch_len (hG : cd_PG nb bk to ib L rk) (hnb : nb ≤ 12) : ∀ l b c, b < nb → L b → cd_ch bk to ib b l c → c < nb ∧ L c ∧ rk c + l.length ≤ rk b
  | [], b, c, hb, hl, h => by
    unfold cd_ch at h
    subst h
    exact ⟨hb, hl, Nat.le_refl _⟩
  | f :: l, b, c, hb, hl, h => by
    unfold cd_ch at h
    obtain ⟨⟨k, hk, rfl⟩, hn, hc⟩ := h
    obtain ⟨t, ht, e1, e2, lt, r, _⟩ := cd_nx1 (G := rk) hG hnb hb hl hk hn
    rw [e2] at hc
    obtain ⟨a1, a2, a3⟩ := cd_ch_len hG hnb l t c ht lt hc
    refine ⟨a1, a2, ?_⟩
    show rk c + (l.length + 1) ≤ rk b
    omega
end
section
variable {x_blocks x_builtBlocks x_edges x_paths x_runX x_runY x_runDone : Int32} {x_ops x_operands x_kinds x_targets x_builtOps x_builtOperands x_builtKinds x_firstEdge x_edgeFrom x_edgeExit x_edgeTo x_edgeWeight x_inTree x_isBack x_beginsPaths x_firstPath x_pathsFrom x_pathsBefore x_counts x_dumped x_dumpKept x_looked x_joined x_met x_nextExit x_way : Nat → Int32}
theorem cd_xend {post : Int32 → Prop} {e : Nat} {q : Int32} (hq : q = nI e) (he : e < 37) (h1 : cd_en x_isBack x_edgeTo e → post 1) (h0 : ¬ cd_en x_isBack x_edgeTo e → post 0) : wpX_endsPath post (x_blocks, x_builtBlocks, x_edges, x_paths, x_runX, x_runY, x_runDone, x_ops, x_operands, x_kinds, x_targets, x_builtOps, x_builtOperands, x_builtKinds, x_firstEdge, x_edgeFrom, x_edgeExit, x_edgeTo, x_edgeWeight, x_inTree, x_isBack, x_beginsPaths, x_firstPath, x_pathsFrom, x_pathsBefore, x_counts, x_dumped, x_dumpKept, x_looked, x_joined, x_met, x_nextExit, x_way) q := by
  subst hq
  unfold wpX_endsPath
  dsimp only
  rw [cd_cl (by omega)]
  refine ⟨pk_in e 37 he, br_c (fun h => ⟨pk_in e 37 he, br_c (fun g => h1 (Or.inr g)) (fun g => h0 (fun z => ?_))⟩) (fun h => h1 (Or.inl h))⟩
  rcases z with z | z
  · exact z h
  · exact g z
theorem cd_xbegin {post : Int32 → Prop} {nb b k : Nat} {FP : Nat → Nat} (hnb : nb ≤ 12) (hb : b < nb) (hk : k < 1000000000) (hf : ∀ c, c < nb → x_firstPath c = nI (FP c) ∧ FP c < 1000000000) (h1 : ∀ c, b < c → c < nb → x_beginsPaths c ≠ 0 → k < FP c) (h2 : x_beginsPaths b ≠ 0 ∧ FP b ≤ k) (hp : post (nI b)) : wpX_beginOfPath post (x_blocks, (nI nb), x_edges, x_paths, x_runX, x_runY, x_runDone, x_ops, x_operands, x_kinds, x_targets, x_builtOps, x_builtOperands, x_builtKinds, x_firstEdge, x_edgeFrom, x_edgeExit, x_edgeTo, x_edgeWeight, x_inTree, x_isBack, x_beginsPaths, x_firstPath, x_pathsFrom, x_pathsBefore, x_counts, x_dumped, x_dumpKept, x_looked, x_joined, x_met, x_nextExit, x_way) (nI k) := by
  have H : ∀ d i g, i + d = nb → (b < i → g = nI b) → wX_beginOfPath_4 post (nI k) x_blocks (nI nb) x_edges x_paths x_runX x_runY x_runDone x_ops x_operands x_kinds x_targets x_builtOps x_builtOperands x_builtKinds x_firstEdge x_edgeFrom x_edgeExit x_edgeTo x_edgeWeight x_inTree x_isBack x_beginsPaths x_firstPath x_pathsFrom x_pathsBefore x_counts x_dumped x_dumpKept x_looked x_joined x_met x_nextExit x_way (d + 1) g (nI i) := by
    intro d
    induction d with
    | zero =>
      intro i g hi hg
      refine pk_le nb i (fun _ => ?_) (fun h => absurd h (by omega))
      rw [hg (by omega)]; exact hp
    | succ d ih =>
      intro i g hi hg
      refine pk_le nb i (fun h => absurd h (by omega)) (fun _ => ⟨pk_in i 12 (by omega), ?_⟩)
      rw [cd_cl (by omega)]
      obtain ⟨f1, f2⟩ := hf i (by omega)
      refine br_c (fun z => nm_r (nI_1 i) (ih (i + 1) g (by omega) (fun hbi => ?_))) (fun z => ⟨pk_in i 12 (by omega), pk_lt k (FP i) (fun hlt => nm_r (nI_1 i) (ih (i + 1) g (by omega) (fun hbi => ?_))) (fun hle => nm_r (nI_1 i) (ih (i + 1) (nI i) (by omega) (fun hbi => ?_))) rfl f1⟩)
      · by_cases e : b = i
        · subst e; exact absurd z h2.1
        · exact hg (by omega)
      · by_cases e : b = i
        · subst e; omega
        · exact hg (by omega)
      · by_cases e : b = i
        · subst e; rfl
        · have := h1 i (by omega) (by omega) z
          omega
  refine Exists.intro (nb - 1 + 1) (H (nb - 1) 1 0 (by omega) (fun h => ?_))
  have : b = 0 := by omega
  subst this
  rfl
theorem cd_xedgeon {post : Int32 → Prop} {b k0 r : Nat} {SM : Nat → Nat} (hb : b < 12) (hfe : x_firstEdge b = nI (cd_fs x_builtKinds b)) (hk : k0 < cd_ec (x_builtKinds b)) (h37 : cd_fs x_builtKinds b + cd_ec (x_builtKinds b) ≤ 36) (hr : r < 1000000000) (hpb : ∀ k, k < cd_ec (x_builtKinds b) → x_pathsBefore (cd_fs x_builtKinds b + k) = nI (SM k) ∧ SM k < 1000000000) (h1 : SM k0 ≤ r) (h2 : ∀ k, k0 < k → k < cd_ec (x_builtKinds b) → r < SM k) (hp : post (nI (cd_fs x_builtKinds b + k0))) : wpX_edgeOnPath post (x_blocks, x_builtBlocks, x_edges, x_paths, x_runX, x_runY, x_runDone, x_ops, x_operands, x_kinds, x_targets, x_builtOps, x_builtOperands, x_builtKinds, x_firstEdge, x_edgeFrom, x_edgeExit, x_edgeTo, x_edgeWeight, x_inTree, x_isBack, x_beginsPaths, x_firstPath, x_pathsFrom, x_pathsBefore, x_counts, x_dumped, x_dumpKept, x_looked, x_joined, x_met, x_nextExit, x_way) (nI b) (nI r) := by
  have H : ∀ d i g, i + d = cd_ec (x_builtKinds b) → (k0 < i → g = nI (cd_fs x_builtKinds b + k0)) → wX_edgeOnPath_25 post (nI r) (nI (cd_fs x_builtKinds b + cd_ec (x_builtKinds b))) x_blocks x_builtBlocks x_edges x_paths x_runX x_runY x_runDone x_ops x_operands x_kinds x_targets x_builtOps x_builtOperands x_builtKinds x_firstEdge x_edgeFrom x_edgeExit x_edgeTo x_edgeWeight x_inTree x_isBack x_beginsPaths x_firstPath x_pathsFrom x_pathsBefore x_counts x_dumped x_dumpKept x_looked x_joined x_met x_nextExit x_way (d + 1) g (nI (cd_fs x_builtKinds b + i)) := by
    intro d
    induction d with
    | zero =>
      intro i g hi hg
      refine pk_le (cd_fs x_builtKinds b + cd_ec (x_builtKinds b)) (cd_fs x_builtKinds b + i) (fun _ => ?_) (fun h => absurd h (by omega))
      rw [hg (by omega)]; exact hp
    | succ d ih =>
      intro i g hi hg
      refine pk_le (cd_fs x_builtKinds b + cd_ec (x_builtKinds b)) (cd_fs x_builtKinds b + i) (fun h => absurd h (by omega)) (fun _ => ⟨pk_in (cd_fs x_builtKinds b + i) 37 (by omega), ?_⟩)
      rw [cd_cl (by omega)]
      obtain ⟨f1, f2⟩ := hpb i (by omega)
      refine pk_lt r (SM i) (fun hlt => nm_r (nI_1 _) (ih (i + 1) g (by omega) (fun hbi => ?_))) (fun hle => nm_r (nI_1 _) (ih (i + 1) _ (by omega) (fun hbi => ?_))) rfl f1
      · by_cases e : k0 = i
        · subst e; omega
        · exact hg (by omega)
      · by_cases e : k0 = i
        · subst e; rfl
        · have := h2 i (by omega) (by omega)
          omega
  have hr1 := cd_ec_r (x_builtKinds b)
  unfold wpX_edgeOnPath
  dsimp only
  rw [cd_cl (by omega)]
  refine ⟨pk_in b 12 hb, nm_r hfe ⟨pk_in b 12 hb, cd_xec (nm_r (nI_add _ _) (nm_r (nI_1 _) (Exists.intro (cd_ec (x_builtKinds b) - 1 + 1) (H (cd_ec (x_builtKinds b) - 1) 1 _ (by omega) (fun h => ?_)))))⟩⟩
  have : k0 = 0 := by omega
  subst this
  rfl
end
