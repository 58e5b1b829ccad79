/-- writing the row of path p leaves the rows before it -/
theorem cd_rw_keep {row len : Nat → Int32} {p n p' : Nat} {f : Nat → Int32} {z : Int32} {l : List Nat} (hl : l.length ≤ 12) (hp : p' < p) (h : cd_rw row len p' l) : cd_rw (cd_fo row (12 * p) n f) (upd len p z) p' l := by
  refine ⟨?_, fun i hi => ?_⟩
  · rw [pk_un (by omega)]; exact h.1
  · rw [cd_fo_out (by omega)]; exact h.2 i hi
section
variable {y_made y_blocks y_edges y_paths y_many y_lastX y_lastY y_lastBlocks : Int32} {y_op y_number y_kind y_target y_from y_to y_exit y_weight y_firstEdge y_tree y_back y_row y_length y_gone y_done y_went y_cut y_kept y_mark y_way y_tried y_stack : Nat → Int32}
variable {nb ne : Nat} {bk pf pb bg : Nat → Int32} {L : Nat → Prop} {rk G : Nat → Nat}
theorem cd_ykeep {post : SY → Prop} {p n : Nat} {q : Int32} (hq : q = nI n) (hp : p < 300) (hn : n ≤ 12) (h : post (y_made, y_blocks, y_edges, (nI (p + 1)), y_many, y_lastX, y_lastY, y_lastBlocks, y_op, y_number, y_kind, y_target, y_from, y_to, y_exit, y_weight, y_firstEdge, y_tree, y_back, (cd_fo y_row (12 * p) n y_way), (upd y_length p (nI n)), y_gone, y_done, y_went, y_cut, y_kept, y_mark, y_way, y_tried, y_stack)) : wpY_keep post (y_made, y_blocks, y_edges, (nI p), y_many, y_lastX, y_lastY, y_lastBlocks, y_op, y_number, y_kind, y_target, y_from, y_to, y_exit, y_weight, y_firstEdge, y_tree, y_back, y_row, y_length, y_gone, y_done, y_went, y_cut, y_kept, y_mark, y_way, y_tried, y_stack) q := by
  subst hq
  have c : ∀ i : Nat, 12 * nI p + nI i = nI (12 * p + i) := fun i => by rw [show (12 : Int32) = nI 12 from rfl, pk_mul, nI_add]
  exact cd_loop (fun m i => wY_keep_2 post (nI n) y_made y_blocks y_edges (nI p) y_many y_lastX y_lastY y_lastBlocks m (nI i) y_op y_number y_kind y_target y_from y_to y_exit y_weight y_firstEdge y_tree y_back (cd_fo y_row (12 * p) i y_way) y_length y_gone y_done y_went y_cut y_kept y_mark y_way y_tried y_stack) n
    (fun m => pk_le n n (fun _ => ⟨pk_in p 300 hp, nm_r (congrArg (fun q => upd y_length q (nI n)) (cd_cl (by omega))) (nm_r (nI_1 p) h)⟩) (fun h => absurd h (by omega)))
    (fun m i hi hm => pk_le n i (fun h => absurd h (by omega)) (fun _ => ⟨pk_in i 13 (by omega), pk_in (12 * p + i) 3600 (by omega) (c i), nm_r (cd_fo_u (c i) (by omega) (congrArg y_way (cd_cl (by omega)))) (nm_r (nI_1 i) hm)⟩))
theorem cd_enum0 (hnb : nb ≤ 12) (hfs : cd_fs bk nb + 1 ≤ ne) (hne : ne ≤ 37) (hkd : ∀ b, b < nb → y_kind (12 + b) = bk b ∧ (∃ k : Nat, k < 6 ∧ bk b = nI k) ∧ y_firstEdge b = nI (cd_fs bk b)) (hG : cd_PG nb bk y_to y_back L rk) (hN : cd_PN nb bk y_to y_back pf pb L rk G) (hL : ∀ b, b < nb → bg b ≠ 0 → L b) {b0 : Nat} (hb0 : b0 < nb) (hbg : bg b0 ≠ 0) (b : Nat) (l : List Nat) (hch : cd_ch bk y_to y_back b0 l b) (deep : ∀ t, rk t < rk b → ∀ l', cd_ch bk y_to y_back b0 l' t → (∀ q k, k + q = cd_ec (bk t) → ∀ (st tr wy row len : Nat → Int32) (p : Nat), st (l').length = nI t → tr (l').length = nI k → (∀ i (h : i < (l').length), wy i = nI (l')[i]) → p = cd_fp bg G b0 + cd_es pb (l') + cd_sm (cd_wt bk y_to y_back G t) k → p ≤ 300 → cd_PR nb p bk y_to y_back pb bg row len G →
      (cd_fp bg G b0 + cd_es pb (l') + G t ≤ 300 → ∃ st' tr' wy' row' len', (∀ i, i < (l').length → st' i = st i ∧ tr' i = tr i ∧ wy' i = wy i) ∧ cd_PR nb (cd_fp bg G b0 + cd_es pb (l') + G t) bk y_to y_back pb bg row' len' G ∧ ∀ post, (∃ n, wY_pathsFrom_16 post n (nI (l').length) y_made (nI nb) (nI ne) (nI (cd_fp bg G b0 + cd_es pb (l') + G t)) 0 y_lastX y_lastY y_lastBlocks y_op y_number y_kind y_target y_from y_to y_exit y_weight y_firstEdge y_tree y_back row' len' y_gone y_done y_went y_cut y_kept y_mark wy' tr' st') → ∃ n, wY_pathsFrom_16 post n (nI ((l').length + 1)) y_made (nI nb) (nI ne) (nI (p)) 0 y_lastX y_lastY y_lastBlocks y_op y_number y_kind y_target y_from y_to y_exit y_weight y_firstEdge y_tree y_back row len y_gone y_done y_went y_cut y_kept y_mark wy tr st) ∧
      (300 < cd_fp bg G b0 + cd_es pb (l') + G t → ∃ st' tr' wy' row' len', cd_PR nb 300 bk y_to y_back pb bg row' len' G ∧ ∀ post : SY → Prop, post (y_made, (nI nb), (nI ne), (nI (300)), 1, y_lastX, y_lastY, y_lastBlocks, y_op, y_number, y_kind, y_target, y_from, y_to, y_exit, y_weight, y_firstEdge, y_tree, y_back, row', len', y_gone, y_done, y_went, y_cut, y_kept, y_mark, wy', tr', st') → ∃ n, wY_pathsFrom_16 post n (nI ((l').length + 1)) y_made (nI nb) (nI ne) (nI (p)) 0 y_lastX y_lastY y_lastBlocks y_op y_number y_kind y_target y_from y_to y_exit y_weight y_firstEdge y_tree y_back row len y_gone y_done y_went y_cut y_kept y_mark wy tr st))) : ∀ q k, k + q = cd_ec (bk b) → ∀ (st tr wy row len : Nat → Int32) (p : Nat), st (l).length = nI b → tr (l).length = nI k → (∀ i (h : i < (l).length), wy i = nI (l)[i]) → p = cd_fp bg G b0 + cd_es pb (l) + cd_sm (cd_wt bk y_to y_back G b) k → p ≤ 300 → cd_PR nb p bk y_to y_back pb bg row len G →
      (cd_fp bg G b0 + cd_es pb (l) + G b ≤ 300 → ∃ st' tr' wy' row' len', (∀ i, i < (l).length → st' i = st i ∧ tr' i = tr i ∧ wy' i = wy i) ∧ cd_PR nb (cd_fp bg G b0 + cd_es pb (l) + G b) bk y_to y_back pb bg row' len' G ∧ ∀ post, (∃ n, wY_pathsFrom_16 post n (nI (l).length) y_made (nI nb) (nI ne) (nI (cd_fp bg G b0 + cd_es pb (l) + G b)) 0 y_lastX y_lastY y_lastBlocks y_op y_number y_kind y_target y_from y_to y_exit y_weight y_firstEdge y_tree y_back row' len' y_gone y_done y_went y_cut y_kept y_mark wy' tr' st') → ∃ n, wY_pathsFrom_16 post n (nI ((l).length + 1)) y_made (nI nb) (nI ne) (nI (p)) 0 y_lastX y_lastY y_lastBlocks y_op y_number y_kind y_target y_from y_to y_exit y_weight y_firstEdge y_tree y_back row len y_gone y_done y_went y_cut y_kept y_mark wy tr st) ∧
      (300 < cd_fp bg G b0 + cd_es pb (l) + G b → ∃ st' tr' wy' row' len', cd_PR nb 300 bk y_to y_back pb bg row' len' G ∧ ∀ post : SY → Prop, post (y_made, (nI nb), (nI ne), (nI (300)), 1, y_lastX, y_lastY, y_lastBlocks, y_op, y_number, y_kind, y_target, y_from, y_to, y_exit, y_weight, y_firstEdge, y_tree, y_back, row', len', y_gone, y_done, y_went, y_cut, y_kept, y_mark, wy', tr', st') → ∃ n, wY_pathsFrom_16 post n (nI ((l).length + 1)) y_made (nI nb) (nI ne) (nI (p)) 0 y_lastX y_lastY y_lastBlocks y_op y_number y_kind y_target y_from y_to y_exit y_weight y_firstEdge y_tree y_back row len y_gone y_done y_went y_cut y_kept y_mark wy tr st) := by
  have hfb := (cd_fs_b bk nb).2
  have hlb0 := hL b0 hb0 hbg
  have hrk0 := (hG.2 b0 hb0 hlb0).1
  obtain ⟨hb, hlb, hlen⟩ := cd_ch_len hG hnb l b0 b hb0 hlb0 hch
  obtain ⟨hkb, hk6, hfe⟩ := hkd b hb
  have hfsl := cd_fs_lt (kd := bk) hb
  have hGb : G b = cd_sm (cd_wt bk y_to y_back G b) (cd_ec (bk b)) := (hN b hb hlb).2.1
  have c1 : nI (l.length + 1) - 1 = nI l.length := nI_pred _
  have cl := cd_cl (n := l.length) (by omega)
  have c12 : (12 : Int32) + nI b = nI (12 + b) := nI_add 12 b
  have cc12 := cd_cl (n := 12 + b) (by omega)
  have cb := cd_cl (n := b) (by omega)
  have hecr := cd_ec_r (bk b)
  intro q
  induction q with
  | zero =>
    intro k hk st tr wy row len p hst htr hwy hp hp3 hPR
    have hkk : k = cd_ec (bk b) := by omega
    subst hkk
    rw [← hGb] at hp
    subst hp
    refine ⟨fun _ => ⟨st, tr, wy, row, len, fun i hi => ⟨rfl, rfl, rfl⟩, hPR, fun post ⟨n, hn⟩ => ⟨n + 1, ?_⟩⟩, fun h => absurd h (by omega)⟩
    refine pk_le (l.length + 1) 0 (fun h => absurd h (by omega)) (fun _ => br_t rfl ⟨pk_in l.length 13 (by omega) c1, ?_⟩)
    rw [c1, cl, hst]
    refine nm_e ⟨pk_in l.length 13 (by omega), ?_⟩
    rw [htr]
    refine nm_e ⟨pk_in (12 + b) 24 (by omega) c12, ?_⟩
    rw [c12, cc12, hkb]
    exact cd_yec hk6 (br_t rfl (nm_r (pk_m1 l.length) hn))
  | succ q ih =>
    intro k hk st tr wy row len p hst htr hwy hp hp3 hPR
    have hklt : k < cd_ec (bk b) := by omega
    obtain ⟨q1, q2, q3, q4⟩ := cd_pbv hG hN hnb hb hlb hklt
    have ce := cd_cl (n := cd_fs bk b + k) (by omega)
    have hexit : ∃ j, j < cd_ec (bk b) ∧ cd_fs bk b + k = cd_fs bk b + j := ⟨k, hklt, rfl⟩
    have hlen2 : (l ++ [cd_fs bk b + k]).length = l.length + 1 := by simp
    have hes : cd_es pb (l ++ [cd_fs bk b + k]) = cd_es pb l + cd_sm (cd_wt bk y_to y_back G b) k := by rw [cd_es_s, q1]
    have hsmk : cd_sm (cd_wt bk y_to y_back G b) (k + 1) = cd_sm (cd_wt bk y_to y_back G b) k + cd_wt bk y_to y_back G b k := rfl
    have hway : ∀ i (h : i < (l ++ [cd_fs bk b + k]).length), upd wy l.length (nI (cd_fs bk b + k)) i = nI (l ++ [cd_fs bk b + k])[i] := by
      intro i hi
      by_cases g : i = l.length
      · subst g; rw [pk_us]; exact congrArg nI (by simp)
      · rw [hlen2] at hi
        rw [pk_un g, hwy i (by omega)]
        exact congrArg nI (List.getElem_append_left (by omega)).symm
    -- the turn up to the edge
    have turn : ∀ (post : SY → Prop) n, ((y_back (cd_fs bk b + k) = 0 → (vp_in (nI (cd_fs bk b + k)) 37 ∧ ((0 ≤ y_to (cd_fs bk b + k) → (vp_in (nI (cd_fs bk b + k)) 37 ∧ (vp_in (nI (l.length + 1)) 13 ∧ ∀ s2, s2 = upd st (l.length + 1) (y_to (cd_fs bk b + k)) → (vp_in (nI (l.length + 1)) 13 ∧ ∀ t2, t2 = upd (upd tr l.length (nI (k + 1))) (l.length + 1) 0 → ∀ x2, x2 = nI (l.length + 1) + 1 → wY_pathsFrom_16 post n x2 y_made (nI nb) (nI ne) (nI (p)) 0 y_lastX y_lastY y_lastBlocks y_op y_number y_kind y_target y_from y_to y_exit y_weight y_firstEdge y_tree y_back row len y_gone y_done y_went y_cut y_kept y_mark (upd wy l.length (nI (cd_fs bk b + k))) t2 s2)))) ∧ (¬ 0 ≤ y_to (cd_fs bk b + k) → wY_pathsFrom_122 post (wY_pathsFrom_16 post n) (nI (l.length + 1)) y_made (nI nb) (nI ne) (nI (p)) 0 y_lastX y_lastY y_lastBlocks y_op y_number y_kind y_target y_from y_to y_exit y_weight y_firstEdge y_tree y_back row len y_gone y_done y_went y_cut y_kept y_mark (upd wy l.length (nI (cd_fs bk b + k))) (upd tr l.length (nI (k + 1))) st)))) ∧ (¬ y_back (cd_fs bk b + k) = 0 → wY_pathsFrom_122 post (wY_pathsFrom_16 post n) (nI (l.length + 1)) y_made (nI nb) (nI ne) (nI (p)) 0 y_lastX y_lastY y_lastBlocks y_op y_number y_kind y_target y_from y_to y_exit y_weight y_firstEdge y_tree y_back row len y_gone y_done y_went y_cut y_kept y_mark (upd wy l.length (nI (cd_fs bk b + k))) (upd tr l.length (nI (k + 1))) st)) → wY_pathsFrom_16 post (n + 1) (nI (l.length + 1)) y_made (nI nb) (nI ne) (nI (p)) 0 y_lastX y_lastY y_lastBlocks y_op y_number y_kind y_target y_from y_to y_exit y_weight y_firstEdge y_tree y_back row len y_gone y_done y_went y_cut y_kept y_mark wy tr st := by
      intro post n hh
      refine pk_le (l.length + 1) 0 (fun h => absurd h (by omega)) (fun _ => br_t rfl ⟨pk_in l.length 13 (by omega) c1, ?_⟩)
      rw [c1, cl, hst]
      refine nm_e ⟨pk_in l.length 13 (by omega), ?_⟩
      rw [htr]
      refine nm_e ⟨pk_in (12 + b) 24 (by omega) c12, ?_⟩
      rw [c12, cc12, hkb, cb]
      refine cd_yec hk6 (br_f (by rw [nI_eq (by omega) (by omega)]; omega) ⟨pk_in l.length 13 (by omega), pk_in l.length 13 (by omega), nm_r (e' := upd tr l.length (nI (k + 1))) (by rw [nI_1]) ⟨pk_in b 13 (by omega), nm_r (e' := nI (cd_fs bk b + k)) (by rw [hfe, nI_add]) ⟨pk_in l.length 13 (by omega), nm_e ⟨pk_in (cd_fs bk b + k) 37 (by omega), ?_⟩⟩⟩⟩)
      rw [ce, cd_cl (n := l.length + 1) (by omega)]
      exact hh
    by_cases hen : cd_en y_back y_to (cd_fs bk b + k)
    · have hwt := cd_wt1 (G := G) hen
      have hvp := cd_ch_vp l b0 b hch hexit hen
      have fin : ∀ (post : SY → Prop) n, wY_pathsFrom_122 post (wY_pathsFrom_16 post n) (nI (l.length + 1)) y_made (nI nb) (nI ne) (nI (p)) 0 y_lastX y_lastY y_lastBlocks y_op y_number y_kind y_target y_from y_to y_exit y_weight y_firstEdge y_tree y_back row len y_gone y_done y_went y_cut y_kept y_mark (upd wy l.length (nI (cd_fs bk b + k))) (upd tr l.length (nI (k + 1))) st → wY_pathsFrom_16 post (n + 1) (nI (l.length + 1)) y_made (nI nb) (nI ne) (nI (p)) 0 y_lastX y_lastY y_lastBlocks y_op y_number y_kind y_target y_from y_to y_exit y_weight y_firstEdge y_tree y_back row len y_gone y_done y_went y_cut y_kept y_mark wy tr st := by
        intro post n h122
        refine turn post n (br_c (fun z => ⟨pk_in (cd_fs bk b + k) 37 (by omega), br_f ?_ h122⟩) (fun _ => h122))
        rcases hen with g | g
        · exact absurd z g
        · rw [g]; decide
      by_cases h3 : p = 300
      · subst h3
        refine ⟨fun h => absurd h (by omega), fun _ => ⟨st, upd tr l.length (nI (k + 1)), upd wy l.length (nI (cd_fs bk b + k)), row, len, hPR, fun post hpost => ⟨1 + 1, fin post 1 ?_⟩⟩⟩
        exact br_t rfl ⟨rfl, rfl, br_f (by decide) (pk_le (l.length + 1) 0 (fun h => absurd h (by omega)) (fun _ => br_f (by decide) hpost))⟩
      · have hPR2 : cd_PR nb (p + 1) bk y_to y_back pb bg (cd_fo row (12 * p) (l.length + 1) (upd wy l.length (nI (cd_fs bk b + k)))) (upd len p (nI (l.length + 1))) G := by
          intro p' hp'
          by_cases g : p' = p
          · subst g
            refine ⟨b0, l ++ [cd_fs bk b + k], hb0, hbg, hvp, by omega, ?_, fun i hi => ?_⟩
            · rw [pk_us, hlen2]
            · rw [hlen2] at hi
              rw [cd_fo_k hi]
              exact hway i (by rw [hlen2]; exact hi)
          · obtain ⟨b', l', g1, g2, g3, g4, g5⟩ := hPR p' (by omega)
            have := cd_vp_len hG hnb l' b' g1 (hL b' g1 g2) g3
            have := (hG.2 b' g1 (hL b' g1 g2)).1
            exact ⟨b', l', g1, g2, g3, g4, cd_rw_keep (by omega) (by omega) g5⟩
        have I2 := ih (k + 1) (by omega) st (upd tr l.length (nI (k + 1))) (upd wy l.length (nI (cd_fs bk b + k))) (cd_fo row (12 * p) (l.length + 1) (upd wy l.length (nI (cd_fs bk b + k)))) (upd len p (nI (l.length + 1))) (p + 1) hst pk_us (fun i h => by rw [pk_un (by omega)]; exact hwy i h) (by omega) (by omega) hPR2
        have cont : ∀ post : SY → Prop, (∃ n, wY_pathsFrom_16 post n (nI (l.length + 1)) y_made (nI nb) (nI ne) (nI (p + 1)) 0 y_lastX y_lastY y_lastBlocks y_op y_number y_kind y_target y_from y_to y_exit y_weight y_firstEdge y_tree y_back (cd_fo row (12 * p) (l.length + 1) (upd wy l.length (nI (cd_fs bk b + k)))) (upd len p (nI (l.length + 1))) y_gone y_done y_went y_cut y_kept y_mark (upd wy l.length (nI (cd_fs bk b + k))) (upd tr l.length (nI (k + 1))) st) → ∃ n, wY_pathsFrom_16 post n (nI (l.length + 1)) y_made (nI nb) (nI ne) (nI (p)) 0 y_lastX y_lastY y_lastBlocks y_op y_number y_kind y_target y_from y_to y_exit y_weight y_firstEdge y_tree y_back row len y_gone y_done y_went y_cut y_kept y_mark wy tr st := by
          intro post hh
          obtain ⟨n, hn⟩ := hh
          refine ⟨n + 1, fin post n (pk_eq p 300 (fun z => absurd z h3) (fun _ => ⟨rfl, rfl, br_t rfl (cd_ykeep rfl (by omega) (by omega) hn)⟩))⟩
        refine ⟨fun hle => ?_, fun hgt => ?_⟩
        · obtain ⟨st', tr', wy', row', len', r1, r2, r3⟩ := I2.1 hle
          refine ⟨st', tr', wy', row', len', fun i hi => ?_, r2, fun post hh => cont post (r3 post hh)⟩
          obtain ⟨a1, a2, a3⟩ := r1 i hi
          rw [pk_un (by omega)] at a2 a3
          exact ⟨a1, a2, a3⟩
        · obtain ⟨st', tr', wy', row', len', r1, r2⟩ := I2.2 hgt
          exact ⟨st', tr', wy', row', len', r1, fun post hh => cont post (r2 post hh)⟩
    · obtain ⟨t, ht, et, ct, lt, rt, ew, hib⟩ := cd_nx1 (G := G) hG hnb hb hlb hklt hen
      have hch2 := cd_ch_s l b0 b hch hexit hen
      rw [ct] at hch2
      have hect := cd_ec_r (bk t)
      have D := deep t rt (l ++ [cd_fs bk b + k]) hch2 (cd_ec (bk t)) 0 (by omega) (upd st (l.length + 1) (nI t)) (upd (upd tr l.length (nI (k + 1))) (l.length + 1) 0) (upd wy l.length (nI (cd_fs bk b + k))) row len p (by rw [hlen2]; exact pk_us) (by rw [hlen2]; exact pk_us) hway (by show _ = _ + 0; omega) hp3 hPR
      rw [hlen2, hes] at D
      have push : ∀ post : SY → Prop, (∃ n, wY_pathsFrom_16 post n (nI (l.length + 1 + 1)) y_made (nI nb) (nI ne) (nI (p)) 0 y_lastX y_lastY y_lastBlocks y_op y_number y_kind y_target y_from y_to y_exit y_weight y_firstEdge y_tree y_back row len y_gone y_done y_went y_cut y_kept y_mark (upd wy l.length (nI (cd_fs bk b + k))) (upd (upd tr l.length (nI (k + 1))) (l.length + 1) 0) (upd st (l.length + 1) (nI t))) → ∃ n, wY_pathsFrom_16 post n (nI (l.length + 1)) y_made (nI nb) (nI ne) (nI (p)) 0 y_lastX y_lastY y_lastBlocks y_op y_number y_kind y_target y_from y_to y_exit y_weight y_firstEdge y_tree y_back row len y_gone y_done y_went y_cut y_kept y_mark wy tr st := by
        intro post hh
        obtain ⟨n, hn⟩ := hh
        refine ⟨n + 1, turn post n (br_t hib ⟨pk_in (cd_fs bk b + k) 37 (by omega), br_t ?_ ⟨pk_in (cd_fs bk b + k) 37 (by omega), pk_in (l.length + 1) 13 (by omega), ?_⟩⟩)⟩
        · rw [et]; exact nI_pos' (by omega)
        · rw [et]
          exact nm_e ⟨pk_in (l.length + 1) 13 (by omega), nm_e (nm_r (nI_1 _) hn)⟩
      by_cases hle1 : cd_fp bg G b0 + (cd_es pb l + cd_sm (cd_wt bk y_to y_back G b) k) + G t ≤ 300
      · obtain ⟨st1, tr1, wy1, row1, len1, a1, a2, a3⟩ := D.1 hle1
        have I2 := ih (k + 1) (by omega) st1 tr1 wy1 row1 len1 (cd_fp bg G b0 + (cd_es pb l + cd_sm (cd_wt bk y_to y_back G b) k) + G t) (by rw [(a1 l.length (by omega)).1, pk_un (by omega)]; exact hst) (by rw [(a1 l.length (by omega)).2.1, pk_un (by omega), pk_us]) (fun i h => by rw [(a1 i (by omega)).2.2, pk_un (by omega)]; exact hwy i h) (by omega) hle1 a2
        refine ⟨fun hle => ?_, fun hgt => ?_⟩
        · obtain ⟨st', tr', wy', row', len', r1, r2, r3⟩ := I2.1 hle
          refine ⟨st', tr', wy', row', len', fun i hi => ?_, r2, fun post hh => push post (a3 post (r3 post hh))⟩
          obtain ⟨d1, d2, d3⟩ := a1 i (by omega)
          obtain ⟨e1, e2, e3⟩ := r1 i hi
          rw [pk_un (by omega)] at d1 d3
          rw [pk_un (by omega), pk_un (by omega)] at d2
          exact ⟨e1.trans d1, e2.trans d2, e3.trans d3⟩
        · obtain ⟨st', tr', wy', row', len', r1, r2⟩ := I2.2 hgt
          exact ⟨st', tr', wy', row', len', r1, fun post hh => push post (a3 post (r2 post hh))⟩
      · obtain ⟨st1, tr1, wy1, row1, len1, a1, a2⟩ := D.2 (by omega)
        refine ⟨fun h => absurd h (by omega), fun _ => ⟨st1, tr1, wy1, row1, len1, a1, fun post hh => push post (a2 post hh)⟩⟩
theorem cd_enum (hnb : nb ≤ 12) (hfs : cd_fs bk nb + 1 ≤ ne) (hne : ne ≤ 37) (hkd : ∀ b, b < nb → y_kind (12 + b) = bk b ∧ (∃ k : Nat, k < 6 ∧ bk b = nI k) ∧ y_firstEdge b = nI (cd_fs bk b)) (hG : cd_PG nb bk y_to y_back L rk) (hN : cd_PN nb bk y_to y_back pf pb L rk G) (hL : ∀ b, b < nb → bg b ≠ 0 → L b) {b0 : Nat} (hb0 : b0 < nb) (hbg : bg b0 ≠ 0) :
    ∀ r b l, rk b ≤ r → cd_ch bk y_to y_back b0 l b → ∀ q k, k + q = cd_ec (bk b) → ∀ (st tr wy row len : Nat → Int32) (p : Nat), st l.length = nI b → tr l.length = nI k → (∀ i (h : i < l.length), wy i = nI l[i]) → p = cd_fp bg G b0 + cd_es pb l + cd_sm (cd_wt bk y_to y_back G b) k → p ≤ 300 → cd_PR nb p bk y_to y_back pb bg row len G →
      (cd_fp bg G b0 + cd_es pb l + G b ≤ 300 → ∃ st' tr' wy' row' len', (∀ i, i < l.length → st' i = st i ∧ tr' i = tr i ∧ wy' i = wy i) ∧ cd_PR nb (cd_fp bg G b0 + cd_es pb l + G b) bk y_to y_back pb bg row' len' G ∧ ∀ post, (∃ n, wY_pathsFrom_16 post n (nI l.length) y_made (nI nb) (nI ne) (nI (cd_fp bg G b0 + cd_es pb l + G b)) 0 y_lastX y_lastY y_lastBlocks y_op y_number y_kind y_target y_from y_to y_exit y_weight y_firstEdge y_tree y_back row' len' y_gone y_done y_went y_cut y_kept y_mark wy' tr' st') → ∃ n, wY_pathsFrom_16 post n (nI (l.length + 1)) y_made (nI nb) (nI ne) (nI (p)) 0 y_lastX y_lastY y_lastBlocks y_op y_number y_kind y_target y_from y_to y_exit y_weight y_firstEdge y_tree y_back row len y_gone y_done y_went y_cut y_kept y_mark wy tr st) ∧
      (300 < cd_fp bg G b0 + cd_es pb l + G b → ∃ st' tr' wy' row' len', cd_PR nb 300 bk y_to y_back pb bg row' len' G ∧ ∀ post : SY → Prop, post (y_made, (nI nb), (nI ne), (nI (300)), 1, y_lastX, y_lastY, y_lastBlocks, y_op, y_number, y_kind, y_target, y_from, y_to, y_exit, y_weight, y_firstEdge, y_tree, y_back, row', len', y_gone, y_done, y_went, y_cut, y_kept, y_mark, wy', tr', st') → ∃ n, wY_pathsFrom_16 post n (nI (l.length + 1)) y_made (nI nb) (nI ne) (nI (p)) 0 y_lastX y_lastY y_lastBlocks y_op y_number y_kind y_target y_from y_to y_exit y_weight y_firstEdge y_tree y_back row len y_gone y_done y_went y_cut y_kept y_mark wy tr st) := by
  have hfb := (cd_fs_b bk nb).2
  have hlb0 := hL b0 hb0 hbg
  have hrk0 := (hG.2 b0 hb0 hlb0).1
  intro r
  induction r with
  | zero =>
    intro b l hr hch
    exact cd_enum0 hnb hfs hne hkd hG hN hL hb0 hbg b l hch (fun t ht => absurd ht (by omega))
  | succ r ih =>
    intro b l hr hch
    exact cd_enum0 hnb hfs hne hkd hG hN hL hb0 hbg b l hch (fun t ht l' hch' => ih t l' (by omega) hch')
/-- Y's paths from one begin -/
theorem cd_ypf (hnb : nb ≤ 12) (hfs : cd_fs bk nb + 1 ≤ ne) (hne : ne ≤ 37) (hkd : ∀ b, b < nb → y_kind (12 + b) = bk b ∧ (∃ k : Nat, k < 6 ∧ bk b = nI k) ∧ y_firstEdge b = nI (cd_fs bk b)) (hG : cd_PG nb bk y_to y_back L rk) (hN : cd_PN nb bk y_to y_back pf pb L rk G) (hL : ∀ b, b < nb → bg b ≠ 0 → L b) {b0 : Nat} (hb0 : b0 < nb) (hbg : bg b0 ≠ 0) (row len wy tr st : Nat → Int32) (hp3 : cd_fp bg G b0 ≤ 300) (hPR : cd_PR nb (cd_fp bg G b0) bk y_to y_back pb bg row len G) :
    (cd_fp bg G b0 + G b0 ≤ 300 → ∃ st' tr' wy' row' len', cd_PR nb (cd_fp bg G b0 + G b0) bk y_to y_back pb bg row' len' G ∧ ∀ post : SY → Prop, post (y_made, (nI nb), (nI ne), (nI (cd_fp bg G b0 + G b0)), 0, y_lastX, y_lastY, y_lastBlocks, y_op, y_number, y_kind, y_target, y_from, y_to, y_exit, y_weight, y_firstEdge, y_tree, y_back, row', len', y_gone, y_done, y_went, y_cut, y_kept, y_mark, wy', tr', st') → wpY_pathsFrom post (y_made, (nI nb), (nI ne), (nI (cd_fp bg G b0)), 0, y_lastX, y_lastY, y_lastBlocks, y_op, y_number, y_kind, y_target, y_from, y_to, y_exit, y_weight, y_firstEdge, y_tree, y_back, row, len, y_gone, y_done, y_went, y_cut, y_kept, y_mark, wy, tr, st) (nI b0)) ∧
    (300 < cd_fp bg G b0 + G b0 → ∃ st' tr' wy' row' len', cd_PR nb 300 bk y_to y_back pb bg row' len' G ∧ ∀ post : SY → Prop, post (y_made, (nI nb), (nI ne), (nI (300)), 1, y_lastX, y_lastY, y_lastBlocks, y_op, y_number, y_kind, y_target, y_from, y_to, y_exit, y_weight, y_firstEdge, y_tree, y_back, row', len', y_gone, y_done, y_went, y_cut, y_kept, y_mark, wy', tr', st') → wpY_pathsFrom post (y_made, (nI nb), (nI ne), (nI (cd_fp bg G b0)), 0, y_lastX, y_lastY, y_lastBlocks, y_op, y_number, y_kind, y_target, y_from, y_to, y_exit, y_weight, y_firstEdge, y_tree, y_back, row, len, y_gone, y_done, y_went, y_cut, y_kept, y_mark, wy, tr, st) (nI b0)) := by
  have hch : cd_ch bk y_to y_back b0 [] b0 := by unfold cd_ch; rfl
  have hecr := cd_ec_r (bk b0)
  have E := cd_enum (y_made := y_made) (y_lastX := y_lastX) (y_lastY := y_lastY) (y_lastBlocks := y_lastBlocks) (y_op := y_op) (y_number := y_number) (y_target := y_target) (y_from := y_from) (y_exit := y_exit) (y_weight := y_weight) (y_tree := y_tree) (y_gone := y_gone) (y_done := y_done) (y_went := y_went) (y_cut := y_cut) (y_kept := y_kept) (y_mark := y_mark) hnb hfs hne hkd hG hN hL hb0 hbg (rk b0) b0 [] (Nat.le_refl _) hch (cd_ec (bk b0)) 0 (by omega) (upd st 0 (nI b0)) (upd tr 0 0) wy row len (cd_fp bg G b0) pk_us pk_us (fun i h => absurd h (by simp)) (by show _ = _ + 0 + 0; omega) hp3 hPR
  have z : cd_fp bg G b0 + cd_es pb [] + G b0 = cd_fp bg G b0 + G b0 := by show _ + 0 + _ = _; omega
  rw [z] at E
  refine ⟨fun hle => ?_, fun hgt => ?_⟩
  · obtain ⟨st', tr', wy', row', len', r1, r2, r3⟩ := E.1 hle
    exact ⟨st', tr', wy', row', len', r2, fun post hpost => nm_e (nm_e (r3 post ⟨1, pk_le 0 0 (fun _ => hpost) (fun h => absurd h (by omega))⟩))⟩
  · obtain ⟨st', tr', wy', row', len', r1, r2⟩ := E.2 hgt
    exact ⟨st', tr', wy', row', len', r1, fun post hpost => nm_e (nm_e (r2 post hpost))⟩
/-- does a block begin paths -/
theorem cd_ybeg {post : SY → Prop} {J : Int32 → Int32 → Int32 → Int32 → Int32 → Int32 → Int32 → Int32 → Int32 → (Nat → Int32) → (Nat → Int32) → (Nat → Int32) → (Nat → Int32) → (Nat → Int32) → (Nat → Int32) → (Nat → Int32) → (Nat → Int32) → (Nat → Int32) → (Nat → Int32) → (Nat → Int32) → (Nat → Int32) → (Nat → Int32) → (Nat → Int32) → (Nat → Int32) → (Nat → Int32) → (Nat → Int32) → (Nat → Int32) → (Nat → Int32) → (Nat → Int32) → (Nat → Int32) → (Nat → Int32) → Prop} {b : Nat} (hne : ne ≤ 37) (hb : b < 12)
    (h0 : ¬ (b = 0 ∨ ∃ e, e < ne ∧ y_back e ≠ 0 ∧ y_to e = nI b) → ∀ x1, x1 = nI b + 1 → J x1 y_made y_blocks (nI ne) y_paths y_many y_lastX y_lastY y_lastBlocks y_op y_number y_kind y_target y_from y_to y_exit y_weight y_firstEdge y_tree y_back y_row y_length y_gone y_done y_went y_cut y_kept y_mark y_way y_tried y_stack)
    (h1 : (b = 0 ∨ ∃ e, e < ne ∧ y_back e ≠ 0 ∧ y_to e = nI b) → wpY_pathsFrom (fun u => match u with | (u_made, u_blocks, u_edges, u_paths, u_many, u_lastX, u_lastY, u_lastBlocks, u_op, u_number, u_kind, u_target, u_from, u_to, u_exit, u_weight, u_firstEdge, u_tree, u_back, u_row, u_length, u_gone, u_done, u_went, u_cut, u_kept, u_mark, u_way, u_tried, u_stack) => ∀ x1, x1 = nI b + 1 → J x1 u_made u_blocks u_edges u_paths u_many u_lastX u_lastY u_lastBlocks u_op u_number u_kind u_target u_from u_to u_exit u_weight u_firstEdge u_tree u_back u_row u_length u_gone u_done u_went u_cut u_kept u_mark u_way u_tried u_stack) (y_made, y_blocks, (nI ne), y_paths, y_many, y_lastX, y_lastY, y_lastBlocks, y_op, y_number, y_kind, y_target, y_from, y_to, y_exit, y_weight, y_firstEdge, y_tree, y_back, y_row, y_length, y_gone, y_done, y_went, y_cut, y_kept, y_mark, y_way, y_tried, y_stack) (nI b)) :
    ∀ d e (x2 : Int32), e + d = ne → ((x2 = 0 ∧ ¬ (b = 0 ∨ ∃ f, f < e ∧ y_back f ≠ 0 ∧ y_to f = nI b)) ∨ (x2 = 1 ∧ (b = 0 ∨ ∃ f, f < e ∧ y_back f ≠ 0 ∧ y_to f = nI b))) → wY_findPaths_32 post J (nI b) y_made y_blocks (nI ne) y_paths y_many y_lastX y_lastY y_lastBlocks y_op y_number y_kind y_target y_from y_to y_exit y_weight y_firstEdge y_tree y_back y_row y_length y_gone y_done y_went y_cut y_kept y_mark y_way y_tried y_stack (d + 1) x2 (nI e) := by
  intro d
  induction d with
  | zero =>
    intro e x2 he hx
    have : e = ne := by omega
    subst this
    refine pk_le e e (fun _ => ?_) (fun h => absurd h (by omega))
    rcases hx with ⟨rfl, h⟩ | ⟨rfl, h⟩
    · exact br_t rfl (h0 h)
    · exact br_f (by decide) (h1 h)
  | succ d ih =>
    intro e x2 he hx
    have more : (y_back e = 0 ∨ ¬ y_to e = nI b) → ((x2 = 0 ∧ ¬ (b = 0 ∨ ∃ f, f < e + 1 ∧ y_back f ≠ 0 ∧ y_to f = nI b)) ∨ (x2 = 1 ∧ (b = 0 ∨ ∃ f, f < e + 1 ∧ y_back f ≠ 0 ∧ y_to f = nI b))) := by
      intro hz
      rcases hx with ⟨h1, h⟩ | ⟨h1, h⟩
      · refine Or.inl ⟨h1, ?_⟩
        rintro (g | ⟨f, f1, f2, f3⟩)
        · exact h (Or.inl g)
        · by_cases g : f = e
          · subst g
            rcases hz with hz | hz
            · exact f2 hz
            · exact hz f3
          · exact h (Or.inr ⟨f, by omega, f2, f3⟩)
      · refine Or.inr ⟨h1, ?_⟩
        rcases h with g | ⟨f, f1, f2, f3⟩
        · exact Or.inl g
        · exact Or.inr ⟨f, by omega, f2, f3⟩
    have o0 : x2 ||| 0 = x2 := by
      rcases hx with ⟨rfl, _⟩ | ⟨rfl, _⟩ <;> decide
    have o1 : x2 ||| 1 = 1 := by
      rcases hx with ⟨rfl, _⟩ | ⟨rfl, _⟩ <;> decide
    refine pk_le ne e (fun h => absurd h (by omega)) (fun _ => ⟨pk_in e 37 (by omega), ?_⟩)
    rw [cd_cl (n := e) (by omega)]
    refine br_c (fun z => nm_r o0 (nm_r (nI_1 e) (ih (e + 1) x2 (by omega) (more (Or.inl z))))) (fun z => ⟨pk_in e 37 (by omega), br_c (fun y => nm_r o1 (nm_r (nI_1 e) (ih (e + 1) 1 (by omega) (Or.inr ⟨rfl, Or.inr ⟨e, by omega, z, y⟩⟩)))) (fun y => nm_r o0 (nm_r (nI_1 e) (ih (e + 1) x2 (by omega) (more (Or.inr y)))))⟩)
theorem cd_yfp (hnb : nb ≤ 12) (hfs : cd_fs bk nb + 1 ≤ ne) (hne : ne ≤ 37) (hkd : ∀ b, b < nb → y_kind (12 + b) = bk b ∧ (∃ k : Nat, k < 6 ∧ bk b = nI k) ∧ y_firstEdge b = nI (cd_fs bk b)) (hG : cd_PG nb bk y_to y_back L rk) (hN : cd_PN nb bk y_to y_back pf pb L rk G) (hL : ∀ b, b < nb → bg b ≠ 0 → L b) (hPB : cd_PB nb ne y_to y_back bg) {post : SY → Prop}
    (hp : ∀ ny mn row len wy tr st, ((mn = 0 ∧ ny = cd_fp bg G nb ∧ cd_fp bg G nb ≤ 300) ∨ (¬ mn = 0 ∧ ny = 300 ∧ 300 < cd_fp bg G nb)) → cd_PR nb ny bk y_to y_back pb bg row len G → post (y_made, (nI nb), (nI ne), (nI (ny)), mn, y_lastX, y_lastY, y_lastBlocks, y_op, y_number, y_kind, y_target, y_from, y_to, y_exit, y_weight, y_firstEdge, y_tree, y_back, row, len, y_gone, y_done, y_went, y_cut, y_kept, y_mark, wy, tr, st)) : wpY_findPaths post (y_made, (nI nb), (nI ne), y_paths, y_many, y_lastX, y_lastY, y_lastBlocks, y_op, y_number, y_kind, y_target, y_from, y_to, y_exit, y_weight, y_firstEdge, y_tree, y_back, y_row, y_length, y_gone, y_done, y_went, y_cut, y_kept, y_mark, y_way, y_tried, y_stack) := by
  have H : ∀ d b ny mn row len wy tr st, b + d = nb → ((mn = 0 ∧ ny = cd_fp bg G b ∧ cd_fp bg G b ≤ 300) ∨ (¬ mn = 0 ∧ ny = 300 ∧ 300 < cd_fp bg G b)) → cd_PR nb ny bk y_to y_back pb bg row len G → wY_findPaths_12 post (d + 1) (nI b) y_made (nI nb) (nI ne) (nI (ny)) mn y_lastX y_lastY y_lastBlocks y_op y_number y_kind y_target y_from y_to y_exit y_weight y_firstEdge y_tree y_back row len y_gone y_done y_went y_cut y_kept y_mark wy tr st := by
    intro d
    induction d with
    | zero =>
      intro b ny mn row len wy tr st hb hm hR
      have : b = nb := by omega
      subst this
      exact pk_le b b (fun _ => hp ny mn row len wy tr st hm hR) (fun h => absurd h (by omega))
    | succ d ih =>
      intro b ny mn row len wy tr st hb hm hR
      have hbn : b < nb := by omega
      have K := fun (x2 : Int32) => cd_ybeg (post := post) (J := wY_findPaths_12 post (d + 1)) (ne := ne) (b := b) (y_made := y_made) (y_blocks := nI nb) (y_paths := nI ny) (y_many := mn) (y_lastX := y_lastX) (y_lastY := y_lastY) (y_lastBlocks := y_lastBlocks) (y_op := y_op) (y_number := y_number) (y_kind := y_kind) (y_target := y_target) (y_from := y_from) (y_to := y_to) (y_exit := y_exit) (y_weight := y_weight) (y_firstEdge := y_firstEdge) (y_tree := y_tree) (y_back := y_back) (y_row := row) (y_length := len) (y_gone := y_gone) (y_done := y_done) (y_went := y_went) (y_cut := y_cut) (y_kept := y_kept) (y_mark := y_mark) (y_way := wy) (y_tried := tr) (y_stack := st) hne (by omega) (fun hno => nm_r (nI_1 b) (ih (b + 1) ny mn row len wy tr st (by omega) (by
          have e : cd_fp bg G (b + 1) = cd_fp bg G b := by
            show cd_sm _ b + (if bg b = 0 then 0 else G b) = _
            rw [if_pos (Decidable.byContradiction (fun z => hno ((hPB b hbn).mp z)))]; rfl
          rw [e]; exact hm) hR)) (fun hyes => by
          have hbg := (hPB b hbn).mpr hyes
          have e : cd_fp bg G (b + 1) = cd_fp bg G b + G b := by
            show cd_sm _ b + (if bg b = 0 then 0 else G b) = _
            rw [if_neg hbg]; rfl
          rcases hm with ⟨rfl, rfl, h3⟩ | ⟨h1, rfl, h3⟩
          · have P := cd_ypf (y_made := y_made) (y_lastX := y_lastX) (y_lastY := y_lastY) (y_lastBlocks := y_lastBlocks) (y_op := y_op) (y_number := y_number) (y_target := y_target) (y_from := y_from) (y_exit := y_exit) (y_weight := y_weight) (y_tree := y_tree) (y_gone := y_gone) (y_done := y_done) (y_went := y_went) (y_cut := y_cut) (y_kept := y_kept) (y_mark := y_mark) hnb hfs hne hkd hG hN hL hbn hbg row len wy tr st h3 hR
            by_cases hle : cd_fp bg G b + G b ≤ 300
            · obtain ⟨st', tr', wy', row', len', r1, r2⟩ := P.1 hle
              exact r2 _ (nm_r (nI_1 b) (ih (b + 1) _ 0 row' len' wy' tr' st' (by omega) (Or.inl ⟨rfl, e.symm, by omega⟩) r1))
            · obtain ⟨st', tr', wy', row', len', r1, r2⟩ := P.2 (by omega)
              exact r2 _ (nm_r (nI_1 b) (ih (b + 1) _ 1 row' len' wy' tr' st' (by omega) (Or.inr ⟨by decide, rfl, by omega⟩) r1))
          · exact nm_e (nm_e ⟨1, pk_le 1 0 (fun h => absurd h (by omega)) (fun _ => br_f h1 (nm_r (nI_1 b) (ih (b + 1) _ mn row len wy _ _ (by omega) (Or.inr ⟨h1, rfl, by omega⟩) hR)))⟩)) ne 0 x2 (by omega)
      refine pk_le nb b (fun h => absurd h (by omega)) (fun _ => pk_eq b 0 (fun z => ⟨_, K 1 (Or.inr ⟨rfl, Or.inl z⟩)⟩) (fun z => ⟨_, K 0 (Or.inl ⟨rfl, ?_⟩)⟩))
      rintro (g | ⟨f, f1, _⟩)
      · exact z g
      · omega
  exact Exists.intro (nb + 1) (H nb 0 0 0 y_row y_length y_way y_tried y_stack (by omega) (Or.inl ⟨rfl, rfl, Nat.zero_le _⟩) (fun p hp => absurd hp (by omega)))
end
