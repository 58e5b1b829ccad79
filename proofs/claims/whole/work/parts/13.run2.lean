theorem cd_vp_b {bk to ib : Nat → Int32} {l : List Nat} {b b' : Nat} (h : cd_vp bk to ib b l) (h' : cd_vp bk to ib b' l) : b = b' := by
  cases l with
  | nil => exact absurd h (by unfold cd_vp; exact id)
  | cons e l =>
    unfold cd_vp at h h'
    obtain ⟨⟨k, hk, rfl⟩, _⟩ := h
    obtain ⟨⟨k', hk', e'⟩, _⟩ := h'
    exact (cd_fs_inj hk hk' e').1
theorem cd_match {nb np : Nat} {bk to ib pf pb bg row len : Nat → Int32} {L : Nat → Prop} {rk G : Nat → Nat} (hnb : nb ≤ 12) (hG : cd_PG nb bk to ib L rk) (hN : cd_PN nb bk to ib pf pb L rk G) (hL : ∀ b, b < nb → bg b ≠ 0 → L b) (hR : cd_PR nb np bk to ib pb bg row len G) {b : Nat} {l : List Nat} (hb : b < nb) (hbg : bg b ≠ 0) (hv : cd_vp bk to ib b l) {p : Nat} (hp : p < np) : cd_rw row len p l ↔ p = cd_fp bg G b + cd_es pb l := by
  obtain ⟨b', l', hb', hbg', hv', hpe, hrw⟩ := hR p hp
  have len1 := cd_vp_len hG hnb l b hb (hL b hb hbg) hv
  have len2 := cd_vp_len hG hnb l' b' hb' (hL b' hb' hbg') hv'
  have r1 := (hG.2 b hb (hL b hb hbg)).1
  have r2 := (hG.2 b' hb' (hL b' hb' hbg')).1
  constructor
  · intro h
    have e := cd_rw_u h hrw (by omega) (by omega) (fun x hx => by have := cd_vp_37 hG hnb l b hb (hL b hb hbg) hv x hx; omega) (fun x hx => by have := cd_vp_37 hG hnb l' b' hb' (hL b' hb' hbg') hv' x hx; omega)
    subst e
    have := cd_vp_b hv hv'
    subst this
    exact hpe.symm
  · intro h
    obtain ⟨_, e⟩ := cd_num_inj hG hN hnb hL hb hb' hbg hbg' hv hv' (by omega)
    subst e
    exact hrw
theorem cd_C1 {mn : Int32} {cn gone done went cut : Nat → Int32} {b : Nat} (hb : b < 12) (h : cd_C mn cn gone done went cut) : cd_C mn (upd cn (37 + b) (cn (37 + b) + 1)) gone (upd done b (done b + 1)) went cut := by
  obtain ⟨h1, h2, h3, h4⟩ := h
  refine ⟨fun e he => ?_, fun c hc => ?_, fun hm p hp => ?_, ?_⟩
  · rw [pk_un (by omega)]; exact h1 e he
  · by_cases e : c = b
    · subst e; rw [pk_us, pk_us, h2 c hc]
    · rw [pk_un e, pk_un (by omega)]; exact h2 c hc
  · rw [pk_un (by omega)]; exact h3 hm p hp
  · rw [pk_un (by omega)]; exact h4
theorem cd_C2 {mn : Int32} {cn gone done went cut : Nat → Int32} {b : Nat} (hb : b < 37) (h : cd_C mn cn gone done went cut) : cd_C mn (upd cn b (cn b + 1)) (upd gone b (gone b + 1)) done went cut := by
  obtain ⟨h1, h2, h3, h4⟩ := h
  refine ⟨fun e he => ?_, fun c hc => ?_, fun hm p hp => ?_, ?_⟩
  · by_cases g : e = b
    · subst g; rw [pk_us, pk_us, h1 e he]
    · rw [pk_un g, pk_un g]; exact h1 e he
  · rw [pk_un (by omega)]; exact h2 c hc
  · rw [pk_un (by omega)]; exact h3 hm p hp
  · rw [pk_un (by omega)]; exact h4
theorem cd_C3 {mn : Int32} {cn gone done went cut : Nat → Int32} (h : cd_C mn cn gone done went cut) : cd_C mn (upd cn 349 (cn 349 + 1)) gone done went (upd cut 0 (cut 0 + 1)) := by
  obtain ⟨h1, h2, h3, h4⟩ := h
  refine ⟨fun e he => ?_, fun c hc => ?_, fun hm p hp => ?_, ?_⟩
  · rw [pk_un (by omega)]; exact h1 e he
  · rw [pk_un (by omega)]; exact h2 c hc
  · rw [pk_un (by omega)]; exact h3 hm p hp
  · rw [pk_us, pk_us, h4]
theorem cd_C4 {mn : Int32} {cn gone done went cut w : Nat → Int32} {q : Nat} (hq : q < 300) (h : cd_C mn cn gone done went cut) (hw : ∀ p, p < 300 → (p = q → w p = went p + 1) ∧ (¬ p = q → w p = went p)) : cd_C mn (upd cn (49 + q) (cn (49 + q) + 1)) gone done w cut := by
  obtain ⟨h1, h2, h3, h4⟩ := h
  refine ⟨fun e he => ?_, fun c hc => ?_, fun hm p hp => ?_, ?_⟩
  · rw [pk_un (by omega)]; exact h1 e he
  · rw [pk_un (by omega)]; exact h2 c hc
  · by_cases e : p = q
    · subst e; rw [pk_us, (hw p hp).1 rfl, h3 hm p hp]
    · rw [pk_un (by omega), (hw p hp).2 e]; exact h3 hm p hp
  · rw [pk_un (by omega)]; exact h4
theorem cd_C5 {mn : Int32} {cn gone done went cut w : Nat → Int32} (hm : ¬ mn = 0) (h : cd_C mn cn gone done went cut) : cd_C mn cn gone done w cut :=
  ⟨h.1, h.2.1, fun z => absurd z hm, h.2.2.2⟩
theorem cd_K1 {mn : Int32} {ne : Nat} {dm dk gone done went cut gone' done' went' cut' : Nat → Int32} (h : cd_K mn ne dm dk gone done went cut) (h1 : ∀ e, 37 ≤ e → gone' e = gone e) (h2 : ∀ e, 12 ≤ e → done' e = done e) (h3 : ∀ e, 300 ≤ e → went' e = went e) (h4 : ∀ e, 1 ≤ e → cut' e = cut e) : cd_K mn ne dm dk gone' done' went' cut' := by
  intro c hc hk
  obtain ⟨k0, k1, k2, k3, k4⟩ := h c hc hk
  refine ⟨k0, fun e he => ?_, fun b hb => ?_, fun hm p hp => ?_, ?_⟩
  · rw [h1 _ (by omega)]; exact k1 e he
  · rw [h2 _ (by omega)]; exact k2 b hb
  · rw [h3 _ (by omega)]; exact k3 hm p hp
  · rw [h4 _ (by omega)]; exact k4
section
variable {x_blocks x_builtBlocks x_edges x_paths x_runX x_runY x_runDone : Int32} {x_ops x_operands x_kinds x_targets x_builtOps x_builtOperands x_builtKinds x_firstEdge x_edgeFrom x_edgeExit x_edgeTo x_edgeWeight x_inTree x_isBack x_beginsPaths x_firstPath x_pathsFrom x_pathsBefore x_counts x_dumped x_dumpKept x_looked x_joined x_met x_nextExit x_way : Nat → Int32} {y_made y_blocks y_edges y_paths y_many y_lastX y_lastY y_lastBlocks : Int32} {y_op y_number y_kind y_target y_from y_to y_exit y_weight y_firstEdge y_tree y_back y_row y_length y_gone y_done y_went y_cut y_kept y_mark y_way y_tried y_stack : Nat → Int32}
theorem cd_ycpE {ny : Nat} {l : List Nat} {q : Int32} (hq : q = nI l.length) (hny : ny ≤ 300) (hl : l.length ≤ 12) (hw : ∀ i (h : i < l.length), y_way i = nI l[i]) :
    ∃ w, (∀ p, p < ny → (cd_rw y_row y_length p l → w p = y_went p + 1) ∧ (¬ cd_rw y_row y_length p l → w p = y_went p)) ∧ (∀ p, ny ≤ p → w p = y_went p) ∧ ∀ post : SY → Prop, post (y_made, y_blocks, y_edges, (nI ny), y_many, y_lastX, y_lastY, y_lastBlocks, y_op, y_number, y_kind, y_target, y_from, y_to, y_exit, y_weight, y_firstEdge, y_tree, y_back, y_row, y_length, y_gone, y_done, w, y_cut, y_kept, y_mark, y_way, y_tried, y_stack) → wpY_countPath post (y_made, y_blocks, y_edges, (nI ny), y_many, y_lastX, y_lastY, y_lastBlocks, y_op, y_number, y_kind, y_target, y_from, y_to, y_exit, y_weight, y_firstEdge, y_tree, y_back, y_row, y_length, y_gone, y_done, y_went, y_cut, y_kept, y_mark, y_way, y_tried, y_stack) q := by
  have D : ∀ p, Decidable (p < ny ∧ cd_rw y_row y_length p l) := fun p => Classical.propDecidable _
  refine ⟨fun p => @ite _ (p < ny ∧ cd_rw y_row y_length p l) (D p) (y_went p + 1) (y_went p), fun p hp => ⟨fun h => if_pos ⟨hp, h⟩, fun h => if_neg (fun z => h z.2)⟩, fun p hp => if_neg (fun z => absurd z.1 (by omega)), fun post hpost => ?_⟩
  refine cd_ycp hq hny hl hw (fun w h1 h2 => ?_)
  have e : w = (fun p => @ite _ (p < ny ∧ cd_rw y_row y_length p l) (D p) (y_went p + 1) (y_went p)) := by
    funext p
    by_cases g : p < ny ∧ cd_rw y_row y_length p l
    · rw [if_pos g]; exact (h1 p g.1).1 g.2
    · rw [if_neg g]
      by_cases g2 : p < ny
      · exact (h1 p g2).2 (fun z => g ⟨g2, z⟩)
      · exact h2 p (by omega)
  rw [e]
  exact hpost
variable {n nb ne np ny : Nat} {L : Nat → Prop} {rk G : Nat → Nat}
theorem cd_yrun1 (hnb : nb ≤ 12) (hB : cd_B nb ne x_builtOps x_builtOperands x_builtKinds x_firstEdge x_edgeFrom x_edgeTo y_op y_number y_kind) (hG : cd_PG nb x_builtKinds x_edgeTo x_isBack L rk) (hN : cd_PN nb x_builtKinds x_edgeTo x_isBack x_pathsFrom x_pathsBefore L rk G) (hPB : cd_PB nb ne x_edgeTo x_isBack x_beginsPaths) (hL : ∀ b, b < nb → x_beginsPaths b ≠ 0 → L b) (hF : ∀ b, b < nb → x_firstPath b = nI (cd_fp x_beginsPaths G b)) (hnp : np = cd_fp x_beginsPaths G nb) (ho : (y_many = 0 ∧ ny = np ∧ np ≤ 300) ∨ (¬ y_many = 0 ∧ ny = 300 ∧ 300 < np)) (hR : cd_PR nb ny x_builtKinds x_edgeTo x_isBack x_pathsBefore x_beginsPaths y_row y_length G) {b s : Nat} {l : List Nat} {postY : Int32 → SY → Prop} (hb : b < nb) (hs : s < 99) (hlen : l.length < 12) (hway : ∀ i (h : i < l.length), y_way i = nI l[i]) {e : Nat} (he : e = cd_fs x_builtKinds b + cd_cx (x_builtKinds b) (cd_op (x_builtOps b) (x_builtOperands b) y_lastX y_lastY).1 (cd_op (x_builtOps b) (x_builtOperands b) y_lastX y_lastY).2)
    (h0 : ¬ cd_en x_isBack x_edgeTo e → ∃ m, wY_run_58 postY m (x_edgeTo e) (nI (l.length + 1)) (nI (s + 1)) (nI n) (nI nb) (nI ne) (nI ny) y_many ((cd_op (x_builtOps b) (x_builtOperands b) y_lastX y_lastY).1) ((cd_op (x_builtOps b) (x_builtOperands b) y_lastX y_lastY).2) (nI (s + 1)) y_op y_number y_kind y_target x_edgeFrom x_edgeTo x_edgeExit x_edgeWeight x_firstEdge x_inTree x_isBack y_row y_length (upd y_gone e (y_gone e + 1)) (upd y_done b (y_done b + 1)) y_went y_cut x_dumpKept y_mark (upd y_way l.length (nI e)) y_tried y_stack)
    (h1 : cd_en x_isBack x_edgeTo e → ∀ w, (∀ p, p < ny → (cd_rw y_row y_length p (l ++ [e]) → w p = y_went p + 1) ∧ (¬ cd_rw y_row y_length p (l ++ [e]) → w p = y_went p)) → (∀ p, ny ≤ p → w p = y_went p) → ∃ m, wY_run_58 postY m (x_edgeTo e) 0 (nI (s + 1)) (nI n) (nI nb) (nI ne) (nI ny) y_many ((cd_op (x_builtOps b) (x_builtOperands b) y_lastX y_lastY).1) ((cd_op (x_builtOps b) (x_builtOperands b) y_lastX y_lastY).2) (nI (s + 1)) y_op y_number y_kind y_target x_edgeFrom x_edgeTo x_edgeExit x_edgeWeight x_firstEdge x_inTree x_isBack y_row y_length (upd y_gone e (y_gone e + 1)) (upd y_done b (y_done b + 1)) w y_cut x_dumpKept y_mark (upd y_way l.length (nI e)) y_tried y_stack) :
    ∃ m, wY_run_58 postY m (nI b) (nI l.length) (nI s) (nI n) (nI nb) (nI ne) (nI ny) y_many y_lastX y_lastY y_lastBlocks y_op y_number y_kind y_target x_edgeFrom x_edgeTo x_edgeExit x_edgeWeight x_firstEdge x_inTree x_isBack y_row y_length y_gone y_done y_went y_cut x_dumpKept y_mark y_way y_tried y_stack := by
  obtain ⟨b1, b2, b3, b4⟩ := hB
  obtain ⟨c1, c2, c3, c4, c5⟩ := b3 b hb
  have hny : ny ≤ 300 := by omega
  have hk := cd_cx_lt (k := x_builtKinds b) (x := (cd_op (x_builtOps b) (x_builtOperands b) y_lastX y_lastY).1) (y := (cd_op (x_builtOps b) (x_builtOperands b) y_lastX y_lastY).2) c4
  have hfs := cd_fs_lt (kd := x_builtKinds) hb
  have hfb := (cd_fs_b x_builtKinds nb).2
  have he36 : e < 36 := by omega
  have hene : e < ne := by omega
  have c : (12 : Int32) + nI b = nI (12 + b) := nI_add 12 b
  have cb := cd_cl (n := b) (by omega)
  have c12 := cd_cl (n := 12 + b) (by omega)
  have ce := cd_cl (n := e) (by omega)
  have cl := cd_cl (n := l.length) (by omega)
  have ee : x_firstEdge b + nI (cd_cx (x_builtKinds b) (cd_op (x_builtOps b) (x_builtOperands b) y_lastX y_lastY).1 (cd_op (x_builtOps b) (x_builtOperands b) y_lastX y_lastY).2) = nI e := by rw [c5, nI_add, he]
  have step : ∀ m, ((x_isBack e = 0 → (vp_in (nI e) 37 ∧ ((0 ≤ x_edgeTo e → (vp_in (nI e) 37 ∧ ∀ x3, x3 = x_edgeTo e → wY_run_58 postY m x3 (nI (l.length + 1)) (nI (s + 1)) (nI n) (nI nb) (nI ne) (nI ny) y_many ((cd_op (x_builtOps b) (x_builtOperands b) y_lastX y_lastY).1) ((cd_op (x_builtOps b) (x_builtOperands b) y_lastX y_lastY).2) (nI (s + 1)) y_op y_number y_kind y_target x_edgeFrom x_edgeTo x_edgeExit x_edgeWeight x_firstEdge x_inTree x_isBack y_row y_length (upd y_gone e (y_gone e + 1)) (upd y_done b (y_done b + 1)) y_went y_cut x_dumpKept y_mark (upd y_way l.length (nI e)) y_tried y_stack)) ∧ (¬ 0 ≤ x_edgeTo e → wY_run_194 postY (wY_run_58 postY m) (nI (l.length + 1)) (nI (s + 1)) (nI e) (nI n) (nI nb) (nI ne) (nI ny) y_many ((cd_op (x_builtOps b) (x_builtOperands b) y_lastX y_lastY).1) ((cd_op (x_builtOps b) (x_builtOperands b) y_lastX y_lastY).2) (nI (s + 1)) y_op y_number y_kind y_target x_edgeFrom x_edgeTo x_edgeExit x_edgeWeight x_firstEdge x_inTree x_isBack y_row y_length (upd y_gone e (y_gone e + 1)) (upd y_done b (y_done b + 1)) y_went y_cut x_dumpKept y_mark (upd y_way l.length (nI e)) y_tried y_stack)))) ∧ (¬ x_isBack e = 0 → wY_run_194 postY (wY_run_58 postY m) (nI (l.length + 1)) (nI (s + 1)) (nI e) (nI n) (nI nb) (nI ne) (nI ny) y_many ((cd_op (x_builtOps b) (x_builtOperands b) y_lastX y_lastY).1) ((cd_op (x_builtOps b) (x_builtOperands b) y_lastX y_lastY).2) (nI (s + 1)) y_op y_number y_kind y_target x_edgeFrom x_edgeTo x_edgeExit x_edgeWeight x_firstEdge x_inTree x_isBack y_row y_length (upd y_gone e (y_gone e + 1)) (upd y_done b (y_done b + 1)) y_went y_cut x_dumpKept y_mark (upd y_way l.length (nI e)) y_tried y_stack)) → wY_run_58 postY (m + 1) (nI b) (nI l.length) (nI s) (nI n) (nI nb) (nI ne) (nI ny) y_many y_lastX y_lastY y_lastBlocks y_op y_number y_kind y_target x_edgeFrom x_edgeTo x_edgeExit x_edgeWeight x_firstEdge x_inTree x_isBack y_row y_length y_gone y_done y_went y_cut x_dumpKept y_mark y_way y_tried y_stack := by
    intro m hm
    refine br_f (nI_pos (by omega)) ⟨pk_in (12 + b) 24 (by omega) c, pk_in (12 + b) 24 (by omega) c, ?_⟩
    rw [c, c12, cb, c1, c2]
    refine cd_yop ⟨pk_in b 36 (by omega), pk_in b 36 (by omega), nm_e (nm_r (nI_1 s) (pk_eq (s + 1) 100 (fun z => absurd z (by omega)) (fun _ => ⟨pk_in b 13 (by omega), pk_in (12 + b) 24 (by omega), ?_⟩)))⟩
    rw [c3]
    refine cd_ycx (nm_r ee ?_)
    rw [ce, cl]
    exact ⟨pk_in e 111 (by omega), pk_in e 111 (by omega), nm_e ⟨pk_in l.length 13 (by omega), nm_e (nm_r (nI_1 _) ⟨pk_in e 37 (by omega), hm⟩)⟩⟩
  have fin : cd_en x_isBack x_edgeTo e → ∃ m, wY_run_194 postY (wY_run_58 postY m) (nI (l.length + 1)) (nI (s + 1)) (nI e) (nI n) (nI nb) (nI ne) (nI ny) y_many ((cd_op (x_builtOps b) (x_builtOperands b) y_lastX y_lastY).1) ((cd_op (x_builtOps b) (x_builtOperands b) y_lastX y_lastY).2) (nI (s + 1)) y_op y_number y_kind y_target x_edgeFrom x_edgeTo x_edgeExit x_edgeWeight x_firstEdge x_inTree x_isBack y_row y_length (upd y_gone e (y_gone e + 1)) (upd y_done b (y_done b + 1)) y_went y_cut x_dumpKept y_mark (upd y_way l.length (nI e)) y_tried y_stack := by
    intro hen
    have hlen2 : (l ++ [e]).length = l.length + 1 := by simp
    have E : ∃ w, (∀ p, p < ny → (cd_rw y_row y_length p (l ++ [e]) → w p = y_went p + 1) ∧ (¬ cd_rw y_row y_length p (l ++ [e]) → w p = y_went p)) ∧ (∀ p, ny ≤ p → w p = y_went p) ∧ ∀ post : SY → Prop, post ((nI n), (nI nb), (nI ne), (nI ny), y_many, ((cd_op (x_builtOps b) (x_builtOperands b) y_lastX y_lastY).1), ((cd_op (x_builtOps b) (x_builtOperands b) y_lastX y_lastY).2), (nI (s + 1)), y_op, y_number, y_kind, y_target, x_edgeFrom, x_edgeTo, x_edgeExit, x_edgeWeight, x_firstEdge, x_inTree, x_isBack, y_row, y_length, (upd y_gone e (y_gone e + 1)), (upd y_done b (y_done b + 1)), w, y_cut, x_dumpKept, y_mark, (upd y_way l.length (nI e)), y_tried, y_stack) → wpY_countPath post ((nI n), (nI nb), (nI ne), (nI ny), y_many, ((cd_op (x_builtOps b) (x_builtOperands b) y_lastX y_lastY).1), ((cd_op (x_builtOps b) (x_builtOperands b) y_lastX y_lastY).2), (nI (s + 1)), y_op, y_number, y_kind, y_target, x_edgeFrom, x_edgeTo, x_edgeExit, x_edgeWeight, x_firstEdge, x_inTree, x_isBack, y_row, y_length, (upd y_gone e (y_gone e + 1)), (upd y_done b (y_done b + 1)), y_went, y_cut, x_dumpKept, y_mark, (upd y_way l.length (nI e)), y_tried, y_stack) (nI (l.length + 1)) := by
      refine cd_ycpE (by rw [hlen2]) hny (by omega) (fun i hi => ?_)
      by_cases g : i = l.length
      · subst g; rw [pk_us]; exact congrArg nI (by simp)
      · rw [pk_un g, hway i (by omega)]
        exact congrArg nI (List.getElem_append_left (by omega)).symm
    obtain ⟨w, w1, w2, w3⟩ := E
    obtain ⟨m, hm⟩ := h1 hen w w1 w2
    refine ⟨m, w3 _ ⟨pk_in e 37 (by omega), ?_⟩⟩
    rw [ce]
    exact nm_e hm
  by_cases hen : cd_en x_isBack x_edgeTo e
  · obtain ⟨m, hm⟩ := fin hen
    refine ⟨m + 1, step m ?_⟩
    refine br_c (fun z => ⟨pk_in e 37 (by omega), br_f ?_ hm⟩) (fun z => hm)
    rcases hen with g | g
    · exact absurd z g
    · rw [g]; decide
  · obtain ⟨m, hm⟩ := h0 hen
    have g1 : x_isBack e = 0 := Decidable.byContradiction (fun z => hen (Or.inl z))
    have g2 : ¬ x_edgeTo e = -1 := fun z => hen (Or.inr z)
    obtain ⟨t, ht, et⟩ := (b4 e hene).1.resolve_left g2
    refine ⟨m + 1, step m (br_t g1 ⟨pk_in e 37 (by omega), br_t ?_ ⟨pk_in e 37 (by omega), nm_e hm⟩⟩)⟩
    rw [et]; exact nI_pos' (by omega)
theorem cd_run (hnb : nb ≤ 12) (hB : cd_B nb ne x_builtOps x_builtOperands x_builtKinds x_firstEdge x_edgeFrom x_edgeTo y_op y_number y_kind) (hG : cd_PG nb x_builtKinds x_edgeTo x_isBack L rk) (hN : cd_PN nb x_builtKinds x_edgeTo x_isBack x_pathsFrom x_pathsBefore L rk G) (hPB : cd_PB nb ne x_edgeTo x_isBack x_beginsPaths) (hL : ∀ b, b < nb → x_beginsPaths b ≠ 0 → L b) (hF : ∀ b, b < nb → x_firstPath b = nI (cd_fp x_beginsPaths G b)) (hnp : np = cd_fp x_beginsPaths G nb) (ho : (y_many = 0 ∧ ny = np ∧ np ≤ 300) ∨ (¬ y_many = 0 ∧ ny = 300 ∧ 300 < np)) (hR : cd_PR nb ny x_builtKinds x_edgeTo x_isBack x_pathsBefore x_beginsPaths y_row y_length G) : ∀ d s b pt b0 l rx ry cn (post : Int32 → SX → Prop), s + d = 99 → b0 < nb → x_beginsPaths b0 ≠ 0 → cd_ch x_builtKinds x_edgeTo x_isBack b0 l b → pt = cd_fp x_beginsPaths G b0 + cd_es x_pathsBefore l →
    (∀ res rx' ry' rd' cn', (∀ (lb : Int32) (gone done went cut way : Nat → Int32), cd_C y_many (cn) gone done went cut → cd_K y_many ne x_dumped x_dumpKept gone done went cut → (∀ i (h : i < List.length (l)), way i = nI (l)[i]) → ∀ postY : Int32 → SY → Prop, (∀ gone' done' went' cut' way', cd_C y_many (cn') gone' done' went' cut' → cd_K y_many ne x_dumped x_dumpKept gone' done' went' cut' → postY res ((nI n), (nI nb), (nI ne), (nI ny), y_many, rx', ry', rd', y_op, y_number, y_kind, y_target, x_edgeFrom, x_edgeTo, x_edgeExit, x_edgeWeight, x_firstEdge, x_inTree, x_isBack, y_row, y_length, gone', done', went', cut', x_dumpKept, y_mark, way', y_tried, y_stack)) → ∃ m, wY_run_58 postY m (nI b) (nI (List.length (l))) (nI (s)) (nI n) (nI nb) (nI ne) (nI ny) y_many rx ry lb y_op y_number y_kind y_target x_edgeFrom x_edgeTo x_edgeExit x_edgeWeight x_firstEdge x_inTree x_isBack y_row y_length gone done went cut x_dumpKept y_mark way y_tried y_stack) → post res ((nI n), (nI nb), (nI ne), (nI np), rx', ry', rd', x_ops, x_operands, x_kinds, x_targets, x_builtOps, x_builtOperands, x_builtKinds, x_firstEdge, x_edgeFrom, x_edgeExit, x_edgeTo, x_edgeWeight, x_inTree, x_isBack, x_beginsPaths, x_firstPath, x_pathsFrom, x_pathsBefore, cn', x_dumped, x_dumpKept, x_looked, x_joined, x_met, x_nextExit, x_way)) → wX_run_61 post (d + 1) (nI b) (nI pt) (nI s) (nI n) (nI nb) (nI ne) (nI np) rx ry (nI s) x_ops x_operands x_kinds x_targets x_builtOps x_builtOperands x_builtKinds x_firstEdge x_edgeFrom x_edgeExit x_edgeTo x_edgeWeight x_inTree x_isBack x_beginsPaths x_firstPath x_pathsFrom x_pathsBefore cn x_dumped x_dumpKept x_looked x_joined x_met x_nextExit x_way := by
  intro d
  induction d with
  | zero =>
    intro s b pt b0 l rx ry cn post hsd hb0 hbg hch hpt hp
    obtain ⟨hb, hlb, hrl⟩ := cd_ch_len hG hnb l b0 b hb0 (hL b0 hb0 hbg) hch
    have : s = 99 := by omega
    subst this
    obtain ⟨b1, b2, b3, b4⟩ := hB
    obtain ⟨c1, c2, c3, c4, c5⟩ := b3 b hb
    have c : (12 : Int32) + nI b = nI (12 + b) := nI_add 12 b
    have cb := cd_cl (n := b) (by omega)
    have c12 := cd_cl (n := 12 + b) (by omega)
    refine pk_le 99 99 (fun _ => cd_xdo (by omega) (nm_e (hp 1 _ _ (nI 99 + 1) _ ?_))) (fun h => absurd h (by omega))
    intro lb gone done went cut way hC hK hway postY hpY
    refine ⟨1, br_f (nI_pos (by omega)) ⟨pk_in (12 + b) 24 (by omega) c, pk_in (12 + b) 24 (by omega) c, ?_⟩⟩
    rw [c, c12, cb, c1, c2]
    refine cd_yop ⟨pk_in b 36 (by omega), pk_in b 36 (by omega), nm_e (nm_e (br_t rfl (nm_e (hpY _ _ _ _ _ ?_ ?_))))⟩
    · exact cd_C3 (cd_C1 (by omega) hC)
    · exact cd_K1 hK (fun e he => rfl) (fun e he => pk_un (by omega)) (fun e he => rfl) (fun e he => pk_un (by omega))
  | succ d ih =>
    intro s b pt b0 l rx ry cn post hsd hb0 hbg hch hpt hp
    obtain ⟨hb, hlb, hrl⟩ := cd_ch_len hG hnb l b0 b hb0 (hL b0 hb0 hbg) hch
    have hrk0 := (hG.2 b0 hb0 (hL b0 hb0 hbg)).1
    have hB' := hB
    obtain ⟨b1, b2, b3, b4⟩ := hB
    obtain ⟨c1, c2, c3, c4, c5⟩ := b3 b hb
    have hk := cd_cx_lt (k := x_builtKinds b) (x := (cd_op (x_builtOps b) (x_builtOperands b) rx ry).1) (y := (cd_op (x_builtOps b) (x_builtOperands b) rx ry).2) c4
    have hfs := cd_fs_lt (kd := x_builtKinds) hb
    have hfb := (cd_fs_b x_builtKinds nb).2
    obtain ⟨q1, q2, q3, q4⟩ := cd_pbv hG hN hnb hb hlb hk
    have ee : x_firstEdge b + nI (cd_cx (x_builtKinds b) (cd_op (x_builtOps b) (x_builtOperands b) rx ry).1 (cd_op (x_builtOps b) (x_builtOperands b) rx ry).2) = nI (cd_fs x_builtKinds b + cd_cx (x_builtKinds b) (cd_op (x_builtOps b) (x_builtOperands b) rx ry).1 (cd_op (x_builtOps b) (x_builtOperands b) rx ry).2) := by rw [c5, nI_add]
    obtain ⟨k, hkd⟩ : ∃ k, k = cd_cx (x_builtKinds b) (cd_op (x_builtOps b) (x_builtOperands b) rx ry).1 (cd_op (x_builtOps b) (x_builtOperands b) rx ry).2 := ⟨_, rfl⟩
    rw [← hkd] at hk ee q1 q2 q3
    obtain ⟨e, hed⟩ : ∃ e, e = cd_fs x_builtKinds b + k := ⟨_, rfl⟩
    rw [← hed] at ee q1 q2
    have he36 : e < 36 := by omega
    have hene : e < ne := by omega
    have cb := cd_cl (n := b) (by omega)
    have ce := cd_cl (n := e) (by omega)
    have hexit : ∃ k, k < cd_ec (x_builtKinds b) ∧ e = cd_fs x_builtKinds b + k := ⟨k, hk, hed⟩
    have hfpb := cd_fp3 hG hN hL hnb (Nat.le_of_lt hb0)
    have hfpn : np ≤ 6377292 := by rw [hnp]; exact cd_fp3 hG hN hL hnb (Nat.le_refl nb)
    have hesl : cd_es x_pathsBefore (l ++ [e]) = cd_es x_pathsBefore l + cd_sm (cd_wt x_builtKinds x_edgeTo x_isBack G b) k := by rw [cd_es_s, q1]
    have hptn : nI pt + x_pathsBefore e = nI (cd_fp x_beginsPaths G b0 + cd_es x_pathsBefore (l ++ [e])) := by
      rw [q2, nI_add]
      exact congrArg nI (by omega)
    refine pk_le 99 s (fun h => absurd h (by omega)) (fun _ => cd_xdo (by omega) ⟨pk_in b 12 (by omega), pk_in b 12 (by omega), ?_⟩)
    rw [cb]
    refine cd_xcx ?_
    rw [← hkd]
    refine nm_r ee ⟨pk_in e 350 (by omega), pk_in e 350 (by omega), ?_⟩
    rw [ce]
    refine nm_e ⟨pk_in e 37 (by omega), nm_r hptn ⟨pk_in e 37 (by omega), nm_e (cd_xend rfl (by omega) (fun hen => ?_) (fun hen => ?_))⟩⟩
    · refine br_f (by decide) ?_
      have hvp := cd_ch_vp l b0 b hch hexit hen
      have hlt := cd_es_lt hG hN hnb _ b0 hb0 (hL b0 hb0 hbg) hvp
      have hst := cd_fp_st (G := G) hb0 hbg
      have hlen2 : (l ++ [e]).length = l.length + 1 := by simp
      -- whatever the counted path, the rest of the run
      have rest : ∀ cn3, (∀ (gone done went cut way w : Nat → Int32), cd_C y_many (upd (upd cn (37 + b) (cn (37 + b) + 1)) e ((upd cn (37 + b) (cn (37 + b) + 1)) e + 1)) gone done went cut → (∀ p, p < ny → (cd_rw y_row y_length p (l ++ [e]) → w p = went p + 1) ∧ (¬ cd_rw y_row y_length p (l ++ [e]) → w p = went p)) → (∀ p, ny ≤ p → w p = went p) → cd_C y_many cn3 gone done w cut) →
          ((x_edgeTo e = -1 → post 0 ((nI n), (nI nb), (nI ne), (nI np), ((cd_op (x_builtOps b) (x_builtOperands b) rx ry).1), ((cd_op (x_builtOps b) (x_builtOperands b) rx ry).2), (nI s + 1), x_ops, x_operands, x_kinds, x_targets, x_builtOps, x_builtOperands, x_builtKinds, x_firstEdge, x_edgeFrom, x_edgeExit, x_edgeTo, x_edgeWeight, x_inTree, x_isBack, x_beginsPaths, x_firstPath, x_pathsFrom, x_pathsBefore, cn3, x_dumped, x_dumpKept, x_looked, x_joined, x_met, x_nextExit, x_way)) ∧ (¬ x_edgeTo e = -1 → (vp_in (x_edgeTo e) 12 ∧ ∀ x4, x4 = x_firstPath (x_edgeTo e).toNatClampNeg → ∀ x5, x5 = nI s + 1 → wX_run_61 post (d + 1) (x_edgeTo e) x4 x5 (nI n) (nI nb) (nI ne) (nI np) ((cd_op (x_builtOps b) (x_builtOperands b) rx ry).1) ((cd_op (x_builtOps b) (x_builtOperands b) rx ry).2) (nI s + 1) x_ops x_operands x_kinds x_targets x_builtOps x_builtOperands x_builtKinds x_firstEdge x_edgeFrom x_edgeExit x_edgeTo x_edgeWeight x_inTree x_isBack x_beginsPaths x_firstPath x_pathsFrom x_pathsBefore cn3 x_dumped x_dumpKept x_looked x_joined x_met x_nextExit x_way))) := by
        intro cn3 hcn3
        refine br_c (fun hout => hp 0 _ _ _ _ ?_) (fun hin => ?_)
        · intro lb gone done went cut way hC hK hway postY hpY
          refine cd_yrun1 hnb hB' hG hN hPB hL hF hnp ho hR hb (by omega) (by omega) hway (hed.trans (congrArg _ hkd)) (fun z => absurd hen z) (fun _ w w1 w2 => ⟨1, ?_⟩)
          rw [hout]
          refine br_t (by decide) ?_
          rw [← nI_1]
          refine hpY _ _ _ _ _ (hcn3 _ _ went cut way w (cd_C2 (by omega) (cd_C1 (by omega) hC)) w1 w2) ?_
          exact cd_K1 hK (fun e he => pk_un (by omega)) (fun e he => pk_un (by omega)) (fun p hp => w2 p (by omega)) (fun e he => rfl)
        · obtain ⟨t, ht, et⟩ := (b4 e hene).1.resolve_left hin
          have ct : (x_edgeTo e).toNatClampNeg = t := by rw [et, cd_cl (by omega)]
          have hib : x_isBack e ≠ 0 := by
            rcases hen with g | g
            · exact g
            · exact absurd g hin
          have hbgt : x_beginsPaths t ≠ 0 := (hPB t ht).mpr (Or.inr ⟨e, hene, hib, et⟩)
          refine ⟨by rw [et]; exact pk_in t 12 (by omega), ?_⟩
          rw [ct, et]
          refine nm_r (hF t ht) (nm_r (nI_1 s) ?_)
          rw [nI_1 s]
          refine ih (s + 1) t _ t [] _ _ cn3 post (by omega) ht hbgt (by unfold cd_ch; rfl) (by show _ = _ + 0; omega) (fun res rx' ry' rd' cn' hY => hp res rx' ry' rd' cn' ?_)
          intro lb gone done went cut way hC hK hway postY hpY
          refine cd_yrun1 hnb hB' hG hN hPB hL hF hnp ho hR hb (by omega) (by omega) hway (hed.trans (congrArg _ hkd)) (fun z => absurd hen z) (fun _ w w1 w2 => ?_)
          rw [et]
          refine hY _ _ _ _ _ _ (hcn3 _ _ went cut way w (cd_C2 (by omega) (cd_C1 (by omega) hC)) w1 w2) ?_ (fun i h => absurd h (by simp)) postY hpY
          exact cd_K1 hK (fun e he => pk_un (by omega)) (fun e he => pk_un (by omega)) (fun p hp => w2 p (by omega)) (fun e he => rfl)
      unfold wpX_countPath wpX_tooManyPaths
      dsimp only
      have cq : (49 : Int32) + nI (cd_fp x_beginsPaths G b0 + cd_es x_pathsBefore (l ++ [e])) = nI (49 + (cd_fp x_beginsPaths G b0 + cd_es x_pathsBefore (l ++ [e]))) := nI_add 49 _
      refine pk_le np 300 (fun h3 => br_t rfl ⟨pk_in _ 350 (by omega) cq, pk_in _ 350 (by omega) cq, ?_⟩) (fun h3 => br_f (by decide) ?_)
      · have ho' : y_many = 0 ∧ ny = np ∧ np ≤ 300 := by
          rcases ho with ho | ho
          · exact ho
          · omega
        rw [cq, cd_cl (by omega)]
        refine nm_e (rest _ (fun gone done went cut way w hC w1 w2 => cd_C4 (by omega) hC (fun p hp => ?_)))
        by_cases g : p < ny
        · have hm := cd_match hnb hG hN hL hR hb0 hbg hvp g
          exact ⟨fun z => (w1 p g).1 (hm.mpr z), fun z => (w1 p g).2 (fun y => z (hm.mp y))⟩
        · exact ⟨fun z => by omega, fun _ => w2 p (by omega)⟩
      · have ho' : ¬ y_many = 0 := by
          rcases ho with ho | ho
          · omega
          · exact ho.1
        exact rest _ (fun gone done went cut way w hC w1 w2 => cd_C5 ho' hC)
    · refine br_t rfl (nm_r (nI_1 s) ?_)
      obtain ⟨t, ht, et, ct, lt, rt, _⟩ := cd_nx1 (G := G) hG hnb hb hlb hk (by rw [← hed]; exact hen)
      rw [← hed] at et ct
      have hch2 := cd_ch_s l b0 b hch hexit hen
      rw [ct] at hch2
      have hlen2 : (l ++ [e]).length = l.length + 1 := by simp
      rw [et, nI_1 s]
      refine ih (s + 1) t _ b0 (l ++ [e]) _ _ _ post (by omega) hb0 hbg hch2 rfl (fun res rx' ry' rd' cn' hY => hp res rx' ry' rd' cn' ?_)
      intro lb gone done went cut way hC hK hway postY hpY
      refine cd_yrun1 hnb hB' hG hN hPB hL hF hnp ho hR hb (by omega) (by omega) hway (hed.trans (congrArg _ hkd)) (fun _ => ?_) (fun z => absurd z hen)
      rw [et, ← hlen2]
      refine hY _ _ _ _ _ _ (cd_C2 (by omega) (cd_C1 (by omega) hC)) ?_ (fun i hi => ?_) postY hpY
      · exact cd_K1 hK (fun e he => pk_un (by omega)) (fun e he => pk_un (by omega)) (fun p hp => rfl) (fun e he => rfl)
      · rw [hlen2] at hi
        by_cases g : i = l.length
        · subst g; rw [pk_us]; exact congrArg nI (by simp)
        · rw [pk_un g, hway i (by omega)]
          exact congrArg nI (List.getElem_append_left (by omega)).symm
end
theorem i_vc_run {k : Nat} {u : SX} {v : SY} (I : i_Rel k u v) (hk : k + 6 ≤ 3072) (v1 : Int32) (v2 : Int32) : wpX_run (fun r u' => wpY_run (fun r' v' => r' = r ∧ i_Rel (k + 6) u' v') v v1 v2) u v1 v2 := by
  have I' := i_up I
  obtain ⟨x_blocks, x_builtBlocks, x_edges, x_paths, x_runX, x_runY, x_runDone, x_ops, x_operands, x_kinds, x_targets, x_builtOps, x_builtOperands, x_builtKinds, x_firstEdge, x_edgeFrom, x_edgeExit, x_edgeTo, x_edgeWeight, x_inTree, x_isBack, x_beginsPaths, x_firstPath, x_pathsFrom, x_pathsBefore, x_counts, x_dumped, x_dumpKept, x_looked, x_joined, x_met, x_nextExit, x_way⟩ := u
  obtain ⟨y_made, y_blocks, y_edges, y_paths, y_many, y_lastX, y_lastY, y_lastBlocks, y_op, y_number, y_kind, y_target, y_from, y_to, y_exit, y_weight, y_firstEdge, y_tree, y_back, y_row, y_length, y_gone, y_done, y_went, y_cut, y_kept, y_mark, y_way, y_tried, y_stack⟩ := v
  obtain ⟨n, nb, ne, np, rfl, rfl, rfl, rfl, rfl, rfl, rfl, rfl, rfl, rfl, rfl, rfl, rfl, rfl, rfl, rfl, rfl, rfl, hD, hB, hC, hK, hP⟩ := I
  have hne := cd_ne hB
  unfold wpX_run wpX_runs wpY_run
  dsimp only
  refine pk_eq nb 0 (fun hz => ?_) (fun hz => ?_)
  · exact pk_eq ne 0 (fun _ => ⟨rfl, I'⟩) (fun z => absurd z (by omega))
  obtain ⟨L, rk, G, hG, hN, hPB, hL, hF, hnp, ny, rfl, ho, hR⟩ := hP.2 (by omega)
  obtain ⟨m, rfl⟩ : ∃ m, ne = m + 1 := ⟨ne - 1, by omega⟩
  have c : nI (m + 1) - 1 = nI m := nI_pred m
  have cm := cd_cl (n := m) (by omega)
  have hnb := hne.1
  refine pk_eq (m + 1) 0 (fun z => absurd z (by omega)) (fun _ => ⟨pk_in m 350 (by omega) c, ?_⟩)
  have hcm := hC.1 m (by omega)
  rw [c, cm]
  refine br_c (fun hlt => ⟨pk_in m 350 (by omega), pk_in m 350 (by omega), nm_e (nm_r (hF 0 (by omega)) ?_)⟩) (fun hge => ?_)
  · refine Exists.intro (99 + 1) (cd_run (n := n) (y_target := y_target) (y_mark := y_mark) (y_tried := y_tried) (y_stack := y_stack) (rk := rk) hnb hB hG hN hPB hL hF hnp ho hR 99 0 0 _ 0 [] v1 v2 _ _ (by omega) (by omega) ((hPB 0 (by omega)).mpr (Or.inl rfl)) (by unfold cd_ch; rfl) (by show _ = _ + 0; omega) (fun res rx' ry' rd' cn' hY => ?_))
    refine pk_eq (m + 1) 0 (fun z => absurd z (by omega)) (fun _ => ⟨pk_in m 111 (by omega), br_t (by rw [hcm]; exact hlt) ⟨pk_in m 111 (by omega), pk_in m 111 (by omega), nm_e ?_⟩⟩)
    refine hY x_runDone _ y_done y_went y_cut y_way (cd_C2 (by omega) hC) (cd_K1 hK (fun e he => pk_un (by omega)) (fun e he => rfl) (fun e he => rfl) (fun e he => rfl)) (fun i h => absurd h (by simp)) _ (fun gone' done' went' cut' way' hC' hK' => ⟨rfl, ?_⟩)
    exact cd_mk n nb (m + 1) np hD hB hC' hK' hP
  · exact pk_eq (m + 1) 0 (fun z => absurd z (by omega)) (fun _ => ⟨pk_in m 111 (by omega), br_f (by rw [hcm]; exact hge) ⟨rfl, I'⟩⟩)
