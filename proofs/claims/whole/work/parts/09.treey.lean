/-- the reference's place -/
def cd_sg (p : Nat) : Nat := if p = 12 then 0 else p + 1
theorem cd_sg13 {p : Nat} (h : p < 13) : cd_sg p < 13 := by
  unfold cd_sg
  split <;> omega
theorem cd_sg_inj {p q : Nat} (h : cd_sg p = cd_sg q) : p = q := by
  unfold cd_sg at h
  split at h
  · split at h <;> omega
  · split at h <;> omega
theorem cd_plY {x : Int32} (hx : x = -1 ∨ ∃ t : Nat, t < 12 ∧ x = nI t) : x + 1 = nI (cd_sg (cd_pl x)) := by
  unfold cd_pl cd_sg
  rcases hx with h | ⟨t, ht, rfl⟩
  · subst h; rfl
  · rw [if_neg (cd_nm1 (by omega)), cd_cl (by omega), if_neg (by omega), nI_1]
/-- the reference's marks and tree against looked, joined, inTree -/
def cd_KY (m : Nat) (s : (Nat → Int32) × (Nat → Int32) × (Nat → Int32)) (mk tr : Nat → Int32) : Prop :=
  (∀ p q, p < 13 → q < 13 → (mk (cd_sg p) = mk (cd_sg q) ↔ s.2.1 p = s.2.1 q)) ∧ (∀ e, e ≤ m → (s.1 e = 0 → tr e = 0) ∧ (s.1 e ≠ 0 → tr e = s.2.2 e)) ∧ (∀ e, m < e → tr e = s.2.2 e)
theorem cd_rel {f : Nat → Int32} {a b : Int32} {p q : Nat} : ((if f p = a then b else f p) = (if f q = a then b else f q)) ↔ (f p = f q ∨ ((f p = a ∨ f p = b) ∧ (f q = a ∨ f q = b))) := by
  by_cases h1 : f p = a
  · rw [if_pos h1]
    by_cases h2 : f q = a
    · rw [if_pos h2, h1, h2]; simp
    · rw [if_neg h2]
      constructor
      · intro e; exact Or.inr ⟨Or.inl h1, Or.inr e.symm⟩
      · rintro (e | ⟨_, e | e⟩)
        · exact absurd (e.symm.trans h1) h2
        · exact absurd e h2
        · exact e.symm
  · rw [if_neg h1]
    by_cases h2 : f q = a
    · rw [if_pos h2]
      constructor
      · intro e; exact Or.inr ⟨Or.inr e, Or.inl h2⟩
      · rintro (e | ⟨e | e, _⟩)
        · exact absurd (e.trans h2) h1
        · exact absurd e h1
        · exact e
    · rw [if_neg h2]
      constructor
      · exact Or.inl
      · rintro (e | ⟨e | e, g | g⟩)
        · exact e
        · exact absurd e h1
        · exact absurd e h1
        · exact absurd g h2
        · exact e.trans g.symm
theorem cd_KY_s {m e : Nat} {fr to : Nat → Int32} {s : (Nat → Int32) × (Nat → Int32) × (Nat → Int32)} {mk tr : Nat → Int32} (hK : cd_KY m s mk tr) (he : e ≤ m) (hz : s.1 e = 0) (h1 : cd_pl (fr e) < 13) (h2 : cd_pl (to e) < 13) :
    (mk (cd_sg (cd_pl (fr e))) = mk (cd_sg (cd_pl (to e))) → cd_KY m (cd_ks fr to e s) mk tr) ∧
    (¬ mk (cd_sg (cd_pl (fr e))) = mk (cd_sg (cd_pl (to e))) → cd_KY m (cd_ks fr to e s) (cd_fo mk 0 13 (fun p => if mk p = mk (cd_sg (cd_pl (to e))) then mk (cd_sg (cd_pl (fr e))) else mk p)) (upd tr e 1)) := by
  obtain ⟨k1, k2, k3⟩ := hK
  have kz := (k2 e he).1 hz
  refine ⟨fun h => ⟨fun p q hp hq => ?_, fun f hf => ?_, fun f hf => ?_⟩, fun h => ⟨fun p q hp hq => ?_, fun f hf => ?_, fun f hf => ?_⟩⟩
  · have hj := (k1 _ _ h1 h2).mp h
    show _ ↔ cd_fo s.2.1 0 13 _ p = cd_fo s.2.1 0 13 _ q
    rw [cd_fo_in (by omega) (by omega), cd_fo_in (by omega) (by omega), Nat.sub_zero, Nat.sub_zero, cd_rel, k1 p q hp hq]
    constructor
    · exact Or.inl
    · rintro (g | ⟨g1 | g1, g2 | g2⟩)
      · exact g
      · exact g1.trans g2.symm
      · exact g1.trans (hj.trans g2.symm)
      · exact g1.trans (hj.symm.trans g2.symm)
      · exact g1.trans g2.symm
  · have hj := (k1 _ _ h1 h2).mp h
    by_cases g : f = e
    · subst g
      refine ⟨fun z => ?_, fun z => ?_⟩
      · exact kz
      · show tr f = upd s.2.2 f _ f
        rw [pk_us, if_pos hj, kz]
    · show (upd s.1 e 1 f = 0 → tr f = 0) ∧ (upd s.1 e 1 f ≠ 0 → tr f = upd s.2.2 e _ f)
      rw [pk_un g, pk_un g]
      exact k2 f hf
  · show tr f = upd s.2.2 e _ f
    rw [pk_un (by omega)]
    exact k3 f hf
  · have hj : ¬ s.2.1 (cd_pl (fr e)) = s.2.1 (cd_pl (to e)) := fun z => h ((k1 _ _ h1 h2).mpr z)
    have g1 := cd_sg13 hp
    have g2 := cd_sg13 hq
    show cd_fo mk 0 13 _ (cd_sg p) = cd_fo mk 0 13 _ (cd_sg q) ↔ cd_fo s.2.1 0 13 _ p = cd_fo s.2.1 0 13 _ q
    rw [cd_fo_in (by omega) (by omega), cd_fo_in (by omega) (by omega), cd_fo_in (by omega) (by omega), cd_fo_in (by omega) (by omega), Nat.sub_zero, Nat.sub_zero, Nat.sub_zero, Nat.sub_zero, cd_rel, cd_rel, k1 p q hp hq, k1 p _ hp h1, k1 p _ hp h2, k1 q _ hq h1, k1 q _ hq h2]
    constructor
    · rintro (a | ⟨a, b⟩)
      · exact Or.inl a
      · exact Or.inr ⟨a.symm, b.symm⟩
    · rintro (a | ⟨a, b⟩)
      · exact Or.inl a
      · exact Or.inr ⟨a.symm, b.symm⟩
  · have hj : ¬ s.2.1 (cd_pl (fr e)) = s.2.1 (cd_pl (to e)) := fun z => h ((k1 _ _ h1 h2).mpr z)
    by_cases g : f = e
    · subst g
      refine ⟨fun z => ?_, fun z => ?_⟩
      · have z' : upd s.1 f 1 f = 0 := z
        rw [pk_us] at z'
        exact absurd z' (by decide)
      · show upd tr f 1 f = upd s.2.2 f _ f
        rw [pk_us, pk_us, if_neg hj]
    · show (upd s.1 e 1 f = 0 → upd tr e 1 f = 0) ∧ (upd s.1 e 1 f ≠ 0 → upd tr e 1 f = upd s.2.2 e _ f)
      rw [pk_un g, pk_un g, pk_un g]
      exact k2 f hf
  · show upd tr e 1 f = upd s.2.2 e _ f
    rw [pk_un (by omega), pk_un (by omega)]
    exact k3 f hf
section
variable {y_made y_blocks y_edges y_paths y_many y_lastX y_lastY y_lastBlocks : Int32} {y_op y_number y_kind y_target y_from y_to y_exit y_weight y_firstEdge y_tree y_back y_row y_length y_gone y_done y_went y_cut y_kept y_mark y_way y_tried y_stack : Nat → Int32}
theorem cd_yjoin {m e : Nat} {q : Int32} {s : (Nat → Int32) × (Nat → Int32) × (Nat → Int32)} (hq : q = nI e) (hK : cd_KY m s y_mark y_tree) (he : e ≤ m) (hm : m < 37) (hz : s.1 e = 0) (hf : y_from e = -1 ∨ ∃ t : Nat, t < 12 ∧ y_from e = nI t) (ht : y_to e = -1 ∨ ∃ t : Nat, t < 12 ∧ y_to e = nI t) :
    ∃ mk tr, cd_KY m (cd_ks y_from y_to e s) mk tr ∧ ∀ post : SY → Prop, post (y_made, y_blocks, y_edges, y_paths, y_many, y_lastX, y_lastY, y_lastBlocks, y_op, y_number, y_kind, y_target, y_from, y_to, y_exit, y_weight, y_firstEdge, tr, y_back, y_row, y_length, y_gone, y_done, y_went, y_cut, y_kept, mk, y_way, y_tried, y_stack) → wpY_join post (y_made, y_blocks, y_edges, y_paths, y_many, y_lastX, y_lastY, y_lastBlocks, y_op, y_number, y_kind, y_target, y_from, y_to, y_exit, y_weight, y_firstEdge, y_tree, y_back, y_row, y_length, y_gone, y_done, y_went, y_cut, y_kept, y_mark, y_way, y_tried, y_stack) q := by
  subst hq
  have c := cd_cl (n := e) (by omega)
  have p1 := cd_pl13 hf
  have p2 := cd_pl13 ht
  have q1 := cd_sg13 p1
  have q2 := cd_sg13 p2
  have e1 := cd_plY hf
  have e2 := cd_plY ht
  obtain ⟨K1, K2⟩ := cd_KY_s (fr := y_from) (to := y_to) hK he hz p1 p2
  by_cases h : y_mark (cd_sg (cd_pl (y_from e))) = y_mark (cd_sg (cd_pl (y_to e)))
  · refine ⟨_, _, K1 h, fun post hp => ?_⟩
    unfold wpY_join
    dsimp only
    rw [c]
    exact ⟨pk_in e 37 (by omega), pk_in _ 13 q1 e1, nm_r (congrArg y_mark (pk_cl _ e1)) ⟨pk_in e 37 (by omega), pk_in _ 13 q2 e2, nm_r (congrArg y_mark (pk_cl _ e2)) (br_t h hp)⟩⟩
  · refine ⟨_, _, K2 h, fun post hp => ?_⟩
    unfold wpY_join
    dsimp only
    rw [c]
    refine ⟨pk_in e 37 (by omega), pk_in _ 13 q1 e1, nm_r (congrArg y_mark (pk_cl _ e1)) ⟨pk_in e 37 (by omega), pk_in _ 13 q2 e2, nm_r (congrArg y_mark (pk_cl _ e2)) (br_f h ⟨pk_in e 37 (by omega), nm_e ?_⟩)⟩⟩
    generalize y_mark (cd_sg (cd_pl (y_from e))) = A at *
    generalize y_mark (cd_sg (cd_pl (y_to e))) = B at *
    exact cd_loop (fun n i => wY_join_44 post A B y_made y_blocks y_edges y_paths y_many y_lastX y_lastY y_lastBlocks n (nI i) y_op y_number y_kind y_target y_from y_to y_exit y_weight y_firstEdge (upd y_tree e 1) y_back y_row y_length y_gone y_done y_went y_cut y_kept (cd_fo y_mark 0 i (fun p => if y_mark p = B then A else y_mark p)) y_way y_tried y_stack) 13
      (fun n => pk_le 13 13 (fun _ => hp) (fun h => absurd h (by omega)))
      (fun n i hi hn => pk_le 13 i (fun h => absurd h (by omega)) (fun h => ⟨pk_in i 13 hi, br_c
        (fun hz => ⟨pk_in i 13 hi, nm_r (cd_fo_z (by omega) (by rw [cd_cl (by omega), cd_fo_out (by omega)] at hz; rw [if_pos hz])) (nm_r (nI_1 i) hn)⟩)
        (fun hz => nm_r (nI_1 i) (by
          rw [cd_cl (by omega), cd_fo_out (by omega)] at hz
          have E : cd_fo y_mark 0 (i + 1) (fun p => if y_mark p = B then A else y_mark p) = cd_fo y_mark 0 i (fun p => if y_mark p = B then A else y_mark p) := by
            rw [← cd_fo_s]
            exact cd_upd_id (by rw [if_neg hz, cd_fo_out (by omega), Nat.zero_add])
          rw [E] at hn
          exact hn))⟩))
theorem cd_l64 (x : Int32) : (x.toInt64).toInt = x.toInt := Int32.toInt_toInt64 x
theorem cd_l64s (x : Int32) : (x.toInt64 + 1).toInt = x.toInt + 1 := by
  have h1 := Int32.toInt_lt x
  have h2 := Int32.le_toInt x
  rw [Int64.toInt_add, cd_l64, show (1 : Int64).toInt = 1 from by decide]
  exact Int.bmod_eq_of_le (by omega) (by omega)
/-- a bound above all weights -/
theorem cd_y69 {post : SY → Prop} {m : Nat} (hm : m < 37) (hp : ∀ a : Int64, (∀ e, e < m → (y_weight e).toInt < a.toInt) → ∃ n, wY_renew_110 post n 1 a y_made y_blocks (nI (m + 1)) y_paths y_many y_lastX y_lastY y_lastBlocks y_op y_number y_kind y_target y_from y_to y_exit y_weight y_firstEdge y_tree y_back y_row y_length y_gone y_done y_went y_cut y_kept y_mark y_way y_tried y_stack) : ∀ d i (a : Int64), i + d = m → (∀ e, e < i → (y_weight e).toInt < a.toInt) → wY_renew_69 post 1 y_made y_blocks (nI (m + 1)) y_paths y_many y_lastX y_lastY y_lastBlocks y_op y_number y_kind y_target y_from y_to y_exit y_weight y_firstEdge y_tree y_back y_row y_length y_gone y_done y_went y_cut y_kept y_mark y_way y_tried y_stack (d + 1) a (nI i) := by
  intro d
  induction d with
  | zero =>
    intro i a hi ha
    have : i = m := by omega
    subst this
    exact pk_le i i (fun _ => hp a ha) (fun h => absurd h (by omega)) (nI_pred i)
  | succ d ih =>
    intro i a hi ha
    refine pk_le m i (fun h => absurd h (by omega)) (fun _ => ⟨pk_in i 37 (by omega), ?_⟩) (nI_pred m)
    rw [cd_cl (by omega)]
    refine br_c (fun h => nm_r (nI_1 i) (ih (i + 1) a (by omega) (fun e he => ?_))) (fun h => ⟨pk_in i 37 (by omega), nm_e (nm_r (nI_1 i) (ih (i + 1) _ (by omega) (fun e he => ?_)))⟩)
    · rw [Int64.lt_iff_toInt_lt, cd_l64] at h
      by_cases g : e = i
      · subst g; exact h
      · exact ha e (by omega)
    · rw [Int64.lt_iff_toInt_lt, cd_l64] at h
      rw [cd_l64s]
      by_cases g : e = i
      · subst g; omega
      · have := ha e (by omega)
        omega
/-- the next weight below a -/
def cd_nx (w : Nat → Int32) (a : Int64) (i : Nat) (x1 : Int32) (x4 : Int64) : Prop :=
  (x1 = 0 ∧ ∀ e, e < i → ¬ (w e).toInt < a.toInt) ∨ (x1 = 1 ∧ x4.toInt < a.toInt ∧ (∃ e, e < i ∧ (w e).toInt = x4.toInt) ∧ ∀ e, e < i → (w e).toInt < a.toInt → (w e).toInt ≤ x4.toInt)
theorem cd_y124 {m : Nat} (hm : m < 37) (a : Int64) : ∀ d i (x1 : Int32) (x4 : Int64), i + d = m → cd_nx y_weight a i x1 x4 → ∃ (z1 : Int32) (z4 : Int64), cd_nx y_weight a m z1 z4 ∧ ∀ post J, (∃ n, wY_renew_193 post J z1 z4 n 0 y_made y_blocks (nI (m + 1)) y_paths y_many y_lastX y_lastY y_lastBlocks y_op y_number y_kind y_target y_from y_to y_exit y_weight y_firstEdge y_tree y_back y_row y_length y_gone y_done y_went y_cut y_kept y_mark y_way y_tried y_stack) → wY_renew_124 post J a y_made y_blocks (nI (m + 1)) y_paths y_many y_lastX y_lastY y_lastBlocks y_op y_number y_kind y_target y_from y_to y_exit y_weight y_firstEdge y_tree y_back y_row y_length y_gone y_done y_went y_cut y_kept y_mark y_way y_tried y_stack (d + 1) x1 x4 (nI i) := by
  intro d
  induction d with
  | zero =>
    intro i x1 x4 hi ha
    have : i = m := by omega
    subst this
    exact ⟨x1, x4, ha, fun post J h => pk_le i i (fun _ => h) (fun h => absurd h (by omega)) (nI_pred i)⟩
  | succ d ih =>
    intro i x1 x4 hi ha
    have ci := cd_cl (n := i) (by omega)
    by_cases h1 : a ≤ (y_weight i).toInt64
    · have h1' : ¬ (y_weight i).toInt < a.toInt := by rw [Int64.le_iff_toInt_le, cd_l64] at h1; omega
      obtain ⟨z1, z4, hz, hw⟩ := ih (i + 1) x1 x4 (by omega) (by
        rcases ha with ⟨p, q⟩ | ⟨p, q0, ⟨e, he, he2⟩, r⟩
        · refine Or.inl ⟨p, fun e he => ?_⟩
          by_cases g : e = i
          · subst g; exact h1'
          · exact q e (by omega)
        · refine Or.inr ⟨p, q0, ⟨e, by omega, he2⟩, fun e he hlt => ?_⟩
          by_cases g : e = i
          · subst g; exact absurd hlt h1'
          · exact r e (by omega) hlt)
      refine ⟨z1, z4, hz, fun post J h => pk_le m i (fun h => absurd h (by omega)) (fun _ => ⟨pk_in i 37 (by omega), ?_⟩) (nI_pred m)⟩
      rw [ci]
      exact br_t h1 (nm_r (nI_1 i) (hw post J h))
    · have h1' : (y_weight i).toInt < a.toInt := by rw [Int64.le_iff_toInt_le, cd_l64] at h1; omega
      by_cases h2 : x1 = 0
      · obtain ⟨z1, z4, hz, hw⟩ := ih (i + 1) 1 (y_weight i).toInt64 (by omega) (by
          rcases ha with ⟨p, q⟩ | ⟨p, _⟩
          · refine Or.inr ⟨rfl, by rw [cd_l64]; exact h1', ⟨i, by omega, (cd_l64 _).symm⟩, fun e he hlt => ?_⟩
            by_cases g : e = i
            · subst g; rw [cd_l64]; omega
            · exact absurd hlt (q e (by omega))
          · rw [h2] at p; exact absurd p (by decide))
        refine ⟨z1, z4, hz, fun post J h => pk_le m i (fun h => absurd h (by omega)) (fun _ => ⟨pk_in i 37 (by omega), ?_⟩) (nI_pred m)⟩
        rw [ci]
        refine br_f h1 (br_t h2 ⟨pk_in i 37 (by omega), nm_r (e' := (y_weight i).toInt64) (by rw [ci]) (nm_r (nI_1 i) (hw post J h))⟩)
      · rcases ha with ⟨p, _⟩ | ⟨p, q0, ⟨e, he, he2⟩, r⟩
        · exact absurd p h2
        · by_cases h3 : x4 < (y_weight i).toInt64
          · have h3' : x4.toInt < (y_weight i).toInt := by rw [Int64.lt_iff_toInt_lt, cd_l64] at h3; exact h3
            obtain ⟨z1, z4, hz, hw⟩ := ih (i + 1) 1 (y_weight i).toInt64 (by omega) (Or.inr ⟨rfl, by rw [cd_l64]; exact h1', ⟨i, by omega, (cd_l64 _).symm⟩, fun e he hlt => by
              rw [cd_l64]
              by_cases g : e = i
              · subst g; omega
              · have := r e (by omega) hlt
                omega⟩)
            refine ⟨z1, z4, hz, fun post J h => pk_le m i (fun h => absurd h (by omega)) (fun _ => ⟨pk_in i 37 (by omega), ?_⟩) (nI_pred m)⟩
            rw [ci]
            refine br_f h1 (br_f h2 ⟨pk_in i 37 (by omega), br_t h3 ⟨pk_in i 37 (by omega), nm_r (e' := (y_weight i).toInt64) (by rw [ci]) (nm_r (nI_1 i) (hw post J h))⟩⟩)
          · have h3' : ¬ x4.toInt < (y_weight i).toInt := by rw [Int64.lt_iff_toInt_lt, cd_l64] at h3; exact h3
            obtain ⟨z1, z4, hz, hw⟩ := ih (i + 1) x1 x4 (by omega) (Or.inr ⟨p, q0, ⟨e, by omega, he2⟩, fun f hf hlt => by
              by_cases g : f = i
              · subst g; omega
              · exact r f (by omega) hlt⟩)
            refine ⟨z1, z4, hz, fun post J h => pk_le m i (fun h => absurd h (by omega)) (fun _ => ⟨pk_in i 37 (by omega), ?_⟩) (nI_pred m)⟩
            rw [ci]
            exact br_f h1 (br_f h2 ⟨pk_in i 37 (by omega), br_f h3 (nm_r (nI_1 i) (hw post J h))⟩)
/-- all edges of one weight -/
theorem cd_y193 {m : Nat} (hm : m < 37) (hf : ∀ e, e ≤ m → y_from e = -1 ∨ ∃ t : Nat, t < 12 ∧ y_from e = nI t) (ht : ∀ e, e ≤ m → y_to e = -1 ∨ ∃ t : Nat, t < 12 ∧ y_to e = nI t) {s0 : (Nat → Int32) × (Nat → Int32) × (Nat → Int32)} (h0 : ∀ e, e ≤ m → s0.1 e = 0) (a : Int64) :
    ∀ d i j s mk tr, i + d = m → cd_KR y_weight y_from y_to m s0 j s → cd_KY m s mk tr → (∀ e, e < m → (s.1 e ≠ 0 ↔ ((y_weight e).toInt > a.toInt ∨ ((y_weight e).toInt = a.toInt ∧ e < i)))) →
      ∃ j' s' mk' tr', cd_KR y_weight y_from y_to m s0 j' s' ∧ cd_KY m s' mk' tr' ∧ j ≤ j' ∧ ((∃ e, e < m ∧ i ≤ e ∧ (y_weight e).toInt = a.toInt) → j < j') ∧ (∀ e, e < m → (s'.1 e ≠ 0 ↔ (y_weight e).toInt ≥ a.toInt)) ∧
        ∀ post (J : Int32 → Int64 → Int32 → Int32 → Int32 → Int32 → Int32 → Int32 → Int32 → Int32 → (Nat → Int32) → (Nat → Int32) → (Nat → Int32) → (Nat → Int32) → (Nat → Int32) → (Nat → Int32) → (Nat → Int32) → (Nat → Int32) → (Nat → Int32) → (Nat → Int32) → (Nat → Int32) → (Nat → Int32) → (Nat → Int32) → (Nat → Int32) → (Nat → Int32) → (Nat → Int32) → (Nat → Int32) → (Nat → Int32) → (Nat → Int32) → (Nat → Int32) → (Nat → Int32) → (Nat → Int32) → Prop), J 1 a y_made y_blocks (nI (m + 1)) y_paths y_many y_lastX y_lastY y_lastBlocks y_op y_number y_kind y_target y_from y_to y_exit y_weight y_firstEdge tr' y_back y_row y_length y_gone y_done y_went y_cut y_kept mk' y_way y_tried y_stack → ∃ n, wY_renew_193 post J 1 a n (nI i) y_made y_blocks (nI (m + 1)) y_paths y_many y_lastX y_lastY y_lastBlocks y_op y_number y_kind y_target y_from y_to y_exit y_weight y_firstEdge tr y_back y_row y_length y_gone y_done y_went y_cut y_kept mk y_way y_tried y_stack := by
  intro d
  induction d with
  | zero =>
    intro i j s mk tr hi hR hY hl
    have : i = m := by omega
    subst this
    refine ⟨j, s, mk, tr, hR, hY, Nat.le_refl _, fun ⟨e, h1, h2, _⟩ => absurd h1 (by omega), fun e he => ?_, fun post J hJ => ⟨1, pk_le i i (fun _ => hJ) (fun h => absurd h (by omega)) (nI_pred i)⟩⟩
    rw [hl e he]
    omega
  | succ d ih =>
    intro i j s mk tr hi hR hY hl
    have ci := cd_cl (n := i) (by omega)
    by_cases h : (y_weight i).toInt64 = a
    · have h' : (y_weight i).toInt = a.toInt := by rw [← h, cd_l64]
      have hz : s.1 i = 0 := by
        by_cases g : s.1 i = 0
        · exact g
        · have := (hl i (by omega)).mp g
          omega
      have hbt : cd_bt y_weight s.1 m i := ⟨by omega, hz, fun f hf2 hfz => by
        have h3 : ¬ ((y_weight f).toInt > a.toInt ∨ ((y_weight f).toInt = a.toInt ∧ f < i)) := fun g => (hl f hf2).mpr g hfz
        omega⟩
      have hl' : ∀ e, e < m → ((cd_ks y_from y_to i s).1 e ≠ 0 ↔ ((y_weight e).toInt > a.toInt ∨ ((y_weight e).toInt = a.toInt ∧ e < i + 1))) := by
        intro e he
        show upd s.1 i 1 e ≠ 0 ↔ _
        by_cases g : e = i
        · subst g
          rw [pk_us]
          constructor
          · intro _; omega
          · intro _; decide
        · rw [pk_un g, hl e he]
          omega
      have hex : ∀ mk' tr', cd_KY m (cd_ks y_from y_to i s) mk' tr' → _ := fun mk' tr' hK' => ih (i + 1) (j + 1) (cd_ks y_from y_to i s) mk' tr' (by omega) ⟨s, i, hR, hbt, rfl⟩ hK' hl'
      have p1 := cd_pl13 (hf i (by omega))
      have p2 := cd_pl13 (ht i (by omega))
      have hjoin : ∃ mk' tr', cd_KY m (cd_ks y_from y_to i s) mk' tr' ∧ ∀ post : SY → Prop, post (y_made, y_blocks, (nI (m + 1)), y_paths, y_many, y_lastX, y_lastY, y_lastBlocks, y_op, y_number, y_kind, y_target, y_from, y_to, y_exit, y_weight, y_firstEdge, tr', y_back, y_row, y_length, y_gone, y_done, y_went, y_cut, y_kept, mk', y_way, y_tried, y_stack) → wpY_join post (y_made, y_blocks, (nI (m + 1)), y_paths, y_many, y_lastX, y_lastY, y_lastBlocks, y_op, y_number, y_kind, y_target, y_from, y_to, y_exit, y_weight, y_firstEdge, tr, y_back, y_row, y_length, y_gone, y_done, y_went, y_cut, y_kept, mk, y_way, y_tried, y_stack) (nI i) := cd_yjoin rfl hY (by omega) hm hz (hf i (by omega)) (ht i (by omega))
      obtain ⟨mk', tr', hK', hJn⟩ := hjoin
      obtain ⟨j', s', mk2, tr2, r1, r2, r3, r4, r5, r6⟩ := hex mk' tr' hK'
      refine ⟨j', s', mk2, tr2, r1, r2, by omega, fun _ => by omega, r5, fun post J hJ => ?_⟩
      obtain ⟨n, hn⟩ := r6 post J hJ
      refine ⟨n + 1, pk_le m i (fun h => absurd h (by omega)) (fun _ => br_f (by decide) ⟨pk_in i 37 (by omega), ?_⟩) (nI_pred m)⟩
      rw [ci]
      exact br_t h (hJn _ (nm_r (nI_1 i) hn))
    · have h' : ¬ (y_weight i).toInt = a.toInt := fun g => h (Int64.toInt_inj.mp (by rw [cd_l64]; exact g))
      obtain ⟨j', s', mk2, tr2, r1, r2, r3, r4, r5, r6⟩ := ih (i + 1) j s mk tr (by omega) hR hY (fun e he => by
        rw [hl e he]
        by_cases g : e = i
        · subst g; omega
        · omega)
      refine ⟨j', s', mk2, tr2, r1, r2, r3, fun ⟨e, h1, h2, h3⟩ => r4 ⟨e, h1, ?_, h3⟩, r5, fun post J hJ => ?_⟩
      · by_cases g : e = i
        · subst g; exact absurd h3 h'
        · omega
      obtain ⟨n, hn⟩ := r6 post J hJ
      refine ⟨n + 1, pk_le m i (fun h => absurd h (by omega)) (fun _ => br_f (by decide) ⟨pk_in i 37 (by omega), ?_⟩) (nI_pred m)⟩
      rw [ci]
      exact br_f h (nm_r (nI_1 i) hn)
theorem cd_lc_le {lk : Nat → Int32} (n : Nat) : cd_lc lk n ≤ n := by
  have := cd_sm_le (f := fun e => if lk e = 0 then 0 else 1) (c := 1) n (fun i _ => by
    show (if lk i = 0 then 0 else 1) ≤ 1
    split <;> omega)
  unfold cd_lc
  omega
theorem cd_y110 {post : SY → Prop} {m : Nat} (hm : m < 37) (hf : ∀ e, e ≤ m → y_from e = -1 ∨ ∃ t : Nat, t < 12 ∧ y_from e = nI t) (ht : ∀ e, e ≤ m → y_to e = -1 ∨ ∃ t : Nat, t < 12 ∧ y_to e = nI t) {s0 sf : (Nat → Int32) × (Nat → Int32) × (Nat → Int32)} (h0 : ∀ e, e ≤ m → s0.1 e = 0) (hsf : cd_KR y_weight y_from y_to m s0 m sf)
    (hp : ∀ mk, post (y_made, y_blocks, (nI (m + 1)), y_paths, y_many, y_lastX, y_lastY, y_lastBlocks, y_op, y_number, y_kind, y_target, y_from, y_to, y_exit, y_weight, y_firstEdge, sf.2.2, y_back, y_row, y_length, (cd_fo y_gone 0 37 (fun _ => 0)), (cd_fo y_done 0 12 (fun _ => 0)), (cd_fo y_went 0 300 (fun _ => 0)), (upd y_cut 0 0), (cd_fo y_kept 0 2 (fun _ => 0)), mk, y_way, y_tried, y_stack)) :
    ∀ μ j s mk tr (a : Int64), m - j ≤ μ → cd_KR y_weight y_from y_to m s0 j s → cd_KY m s mk tr → (∀ e, e < m → (s.1 e ≠ 0 ↔ (y_weight e).toInt ≥ a.toInt)) → ∃ n, wY_renew_110 post n 1 a y_made y_blocks (nI (m + 1)) y_paths y_many y_lastX y_lastY y_lastBlocks y_op y_number y_kind y_target y_from y_to y_exit y_weight y_firstEdge tr y_back y_row y_length y_gone y_done y_went y_cut y_kept mk y_way y_tried y_stack := by
  intro μ
  induction μ with
  | zero =>
    intro j s mk tr a hμ hR hY hl
    obtain ⟨c1, c2⟩ := cd_KR_c h0 j s hR
    have c3 := cd_lc_le (lk := s.1) (m + 1)
    have hj : j = m := by omega
    subst hj
    have hall : ∀ e, e ≤ j → s.1 e ≠ 0 := by
      intro e he hz
      have h1 := cd_lc_u (lk := s.1) (n := j + 1) (e := e) (by omega) hz
      have h2 := cd_lc_le (lk := upd s.1 e 1) (j + 1)
      omega
    have hs : s = sf := cd_KR_u j s sf hR hsf
    subst hs
    have htr : tr = s.2.2 := by
      funext e
      by_cases g : e ≤ j
      · exact (hY.2.1 e g).2 (hall e g)
      · exact hY.2.2 e (by omega)
    subst htr
    have P : ∃ (z1 : Int32) (z4 : Int64), cd_nx y_weight a j z1 z4 ∧ ∀ post J, (∃ n, wY_renew_193 post J z1 z4 n 0 y_made y_blocks (nI (j + 1)) y_paths y_many y_lastX y_lastY y_lastBlocks y_op y_number y_kind y_target y_from y_to y_exit y_weight y_firstEdge s.2.2 y_back y_row y_length y_gone y_done y_went y_cut y_kept mk y_way y_tried y_stack) → wY_renew_124 post J a y_made y_blocks (nI (j + 1)) y_paths y_many y_lastX y_lastY y_lastBlocks y_op y_number y_kind y_target y_from y_to y_exit y_weight y_firstEdge s.2.2 y_back y_row y_length y_gone y_done y_went y_cut y_kept mk y_way y_tried y_stack (j + 1) 0 (-3000000000) (nI 0) := cd_y124 hm a j 0 0 (-3000000000) (by omega) (Or.inl ⟨rfl, fun e he => absurd he (by omega)⟩)
    obtain ⟨z1, z4, hz, hw⟩ := P
    have hz0 : z1 = 0 := by
      rcases hz with ⟨p, _⟩ | ⟨p, q, ⟨e, he, he2⟩, _⟩
      · exact p
      · have := (hl e he).mp (hall e (by omega))
        omega
    subst hz0
    refine ⟨2, br_f (by decide) (Exists.intro _ (hw _ _ ⟨1, ?_⟩))⟩
    have last : wY_renew_110 post 1 0 z4 y_made y_blocks (nI (j + 1)) y_paths y_many y_lastX y_lastY y_lastBlocks y_op y_number y_kind y_target y_from y_to y_exit y_weight y_firstEdge s.2.2 y_back y_row y_length y_gone y_done y_went y_cut y_kept mk y_way y_tried y_stack := br_t rfl (cd_yempty (nm_e (nm_e (hp mk))))
    exact pk_le j 0 (fun _ => last) (fun _ => br_t rfl last) (nI_pred j)
  | succ μ ih =>
    intro j s mk tr a hμ hR hY hl
    have P : ∃ (z1 : Int32) (z4 : Int64), cd_nx y_weight a m z1 z4 ∧ ∀ post J, (∃ n, wY_renew_193 post J z1 z4 n 0 y_made y_blocks (nI (m + 1)) y_paths y_many y_lastX y_lastY y_lastBlocks y_op y_number y_kind y_target y_from y_to y_exit y_weight y_firstEdge tr y_back y_row y_length y_gone y_done y_went y_cut y_kept mk y_way y_tried y_stack) → wY_renew_124 post J a y_made y_blocks (nI (m + 1)) y_paths y_many y_lastX y_lastY y_lastBlocks y_op y_number y_kind y_target y_from y_to y_exit y_weight y_firstEdge tr y_back y_row y_length y_gone y_done y_went y_cut y_kept mk y_way y_tried y_stack (m + 1) 0 (-3000000000) (nI 0) := cd_y124 hm a m 0 0 (-3000000000) (by omega) (Or.inl ⟨rfl, fun e he => absurd he (by omega)⟩)
    obtain ⟨z1, z4, hz, hw⟩ := P
    obtain ⟨c1, c2⟩ := cd_KR_c h0 j s hR
    rcases hz with ⟨rfl, q⟩ | ⟨rfl, q0, ⟨e, he, he2⟩, q⟩
    · have hall : ∀ e, e ≤ m → s.1 e ≠ 0 := by
        intro e he
        by_cases g : e = m
        · subst g; exact c2
        · refine (hl e (by omega)).mpr ?_
          have := q e (by omega)
          omega
      have c3 := cd_lc_all (lk := s.1) (m + 1) (fun e he => hall e (by omega))
      have hj : j = m := by omega
      subst hj
      have hs : s = sf := cd_KR_u j s sf hR hsf
      subst hs
      have htr : tr = s.2.2 := by
        funext e
        by_cases g : e ≤ j
        · exact (hY.2.1 e g).2 (hall e g)
        · exact hY.2.2 e (by omega)
      subst htr
      refine ⟨2, br_f (by decide) (Exists.intro _ (hw _ _ ⟨1, ?_⟩))⟩
      have last : wY_renew_110 post 1 0 z4 y_made y_blocks (nI (j + 1)) y_paths y_many y_lastX y_lastY y_lastBlocks y_op y_number y_kind y_target y_from y_to y_exit y_weight y_firstEdge s.2.2 y_back y_row y_length y_gone y_done y_went y_cut y_kept mk y_way y_tried y_stack := br_t rfl (cd_yempty (nm_e (nm_e (hp mk))))
      exact pk_le j 0 (fun _ => last) (fun _ => br_t rfl last) (nI_pred j)
    · obtain ⟨j', s', mk', tr', r1, r2, r3, r4, r5, r6⟩ := cd_y193 (y_made := y_made) (y_blocks := y_blocks) (y_paths := y_paths) (y_many := y_many) (y_lastX := y_lastX) (y_lastY := y_lastY) (y_lastBlocks := y_lastBlocks) (y_op := y_op) (y_number := y_number) (y_kind := y_kind) (y_target := y_target) (y_exit := y_exit) (y_firstEdge := y_firstEdge) (y_back := y_back) (y_row := y_row) (y_length := y_length) (y_gone := y_gone) (y_done := y_done) (y_went := y_went) (y_cut := y_cut) (y_kept := y_kept) (y_way := y_way) (y_tried := y_tried) (y_stack := y_stack) hm hf ht h0 z4 m 0 j s mk tr (by omega) hR hY (fun f hf2 => by
        rw [hl f hf2]
        have := q f hf2
        omega)
      have r4' := r4 ⟨e, he, by omega, he2⟩
      obtain ⟨d1, d2⟩ := cd_KR_c h0 j' s' r1
      have d3 := cd_lc_le (lk := s'.1) (m + 1)
      obtain ⟨n, hn⟩ := ih j' s' mk' tr' z4 (by omega) r1 r2 r5
      exact ⟨n + 1, br_f (by decide) (Exists.intro _ (hw _ _ (r6 _ _ hn)))⟩
theorem cd_yrenew {post : SY → Prop} {m : Nat} (hm : m < 37) (hf : ∀ e, e ≤ m → y_from e = -1 ∨ ∃ t : Nat, t < 12 ∧ y_from e = nI t) (ht : ∀ e, e ≤ m → y_to e = -1 ∨ ∃ t : Nat, t < 12 ∧ y_to e = nI t) {lk0 jn0 : Nat → Int32} {sf : (Nat → Int32) × (Nat → Int32) × (Nat → Int32)} (h0 : ∀ e, e ≤ m → lk0 e = 0) (hj0 : ∀ p, p < 13 → jn0 p = nI p) (hsf : cd_KR y_weight y_from y_to m (lk0, jn0, y_tree) m sf)
    (hp : ∀ mk, post (y_made, y_blocks, (nI (m + 1)), y_paths, y_many, y_lastX, y_lastY, y_lastBlocks, y_op, y_number, y_kind, y_target, y_from, y_to, y_exit, y_weight, y_firstEdge, sf.2.2, y_back, y_row, y_length, (cd_fo y_gone 0 37 (fun _ => 0)), (cd_fo y_done 0 12 (fun _ => 0)), (cd_fo y_went 0 300 (fun _ => 0)), (upd y_cut 0 0), (cd_fo y_kept 0 2 (fun _ => 0)), mk, y_way, y_tried, y_stack)) : wpY_renew post (y_made, y_blocks, (nI (m + 1)), y_paths, y_many, y_lastX, y_lastY, y_lastBlocks, y_op, y_number, y_kind, y_target, y_from, y_to, y_exit, y_weight, y_firstEdge, y_tree, y_back, y_row, y_length, y_gone, y_done, y_went, y_cut, y_kept, y_mark, y_way, y_tried, y_stack) := by
  have hKY0 : cd_KY m (lk0, jn0, y_tree) (cd_fo y_mark 0 13 nI) (cd_fo y_tree 0 (m + 1) (fun _ => 0)) := by
    refine ⟨fun p q hp hq => ?_, fun e he => ⟨fun _ => cd_fo_in (by omega) (by omega), fun z => absurd (h0 e he) z⟩, fun e he => cd_fo_out (by omega)⟩
    have g1 := cd_sg13 hp
    have g2 := cd_sg13 hq
    rw [cd_fo_in (by omega) (by omega), cd_fo_in (by omega) (by omega), Nat.sub_zero, Nat.sub_zero, nI_eq (by omega) (by omega)]
    show _ ↔ jn0 p = jn0 q
    rw [hj0 p hp, hj0 q hq, nI_eq (by omega) (by omega)]
    exact ⟨cd_sg_inj, fun e => by rw [e]⟩
  have P : ∃ mk tr, cd_KY m (cd_ks y_from y_to m (lk0, jn0, y_tree)) mk tr ∧ ∀ post : SY → Prop, post (y_made, y_blocks, (nI (m + 1)), y_paths, y_many, y_lastX, y_lastY, y_lastBlocks, y_op, y_number, y_kind, y_target, y_from, y_to, y_exit, y_weight, y_firstEdge, tr, y_back, y_row, y_length, y_gone, y_done, y_went, y_cut, y_kept, mk, y_way, y_tried, y_stack) → wpY_join post (y_made, y_blocks, (nI (m + 1)), y_paths, y_many, y_lastX, y_lastY, y_lastBlocks, y_op, y_number, y_kind, y_target, y_from, y_to, y_exit, y_weight, y_firstEdge, (cd_fo y_tree 0 (m + 1) (fun _ => 0)), y_back, y_row, y_length, y_gone, y_done, y_went, y_cut, y_kept, (cd_fo y_mark 0 13 nI), y_way, y_tried, y_stack) (nI (m + 1) - 1) := cd_yjoin (nI_pred m) hKY0 (Nat.le_refl _) hm (h0 m (Nat.le_refl _)) (hf m (Nat.le_refl _)) (ht m (Nat.le_refl _))
  obtain ⟨mk, tr, hKY, hJn⟩ := P
  refine cd_loop (fun n i => wY_renew_2 post y_made y_blocks (nI (m + 1)) y_paths y_many y_lastX y_lastY y_lastBlocks n (nI i) y_op y_number y_kind y_target y_from y_to y_exit y_weight y_firstEdge y_tree y_back y_row y_length y_gone y_done y_went y_cut y_kept (cd_fo y_mark 0 i nI) y_way y_tried y_stack) 13
    (fun n => pk_le 13 13 (fun _ => ?_) (fun h => absurd h (by omega)))
    (fun n i hi hn => pk_le 13 i (fun h => absurd h (by omega)) (fun h => ⟨pk_in i 13 hi, nm_r (cd_fo_z (by omega) rfl) (nm_r (nI_1 i) hn)⟩))
  refine cd_loop (fun n i => wY_renew_23 post y_made y_blocks (nI (m + 1)) y_paths y_many y_lastX y_lastY y_lastBlocks n (nI i) y_op y_number y_kind y_target y_from y_to y_exit y_weight y_firstEdge (cd_fo y_tree 0 i (fun _ => 0)) y_back y_row y_length y_gone y_done y_went y_cut y_kept (cd_fo y_mark 0 13 nI) y_way y_tried y_stack) (m + 1)
    (fun n => pk_le (m + 1) (m + 1) (fun _ => ?_) (fun h => absurd h (by omega)))
    (fun n i hi hn => pk_le (m + 1) i (fun h => absurd h (by omega)) (fun h => ⟨pk_in i 37 (by omega), nm_r (cd_fo_z (by omega) rfl) (nm_r (nI_1 i) hn)⟩))
  refine hJn _ (nm_e (Exists.intro (m + 1) (cd_y69 hm (fun a ha => ?_) m 0 _ (by omega) (fun e he => absurd he (by omega)))))
  refine cd_y110 hm hf ht h0 hsf hp m 0 _ mk tr a (by omega) rfl hKY (fun e he => ?_)
  have h1 := ha e he
  show upd lk0 m 1 e ≠ 0 ↔ _
  rw [pk_un (by omega), h0 e (by omega)]
  constructor
  · intro z; exact absurd rfl z
  · intro z; omega
end
/-- the two trees -/
theorem cd_B37 {nb ne : Nat} {bo bp bk fe fr to op number kind : Nat → Int32} (h : cd_B nb ne bo bp bk fe fr to op number kind) {m : Nat} (hm : ne = m + 1) : m < 37 ∧ (∀ e, e ≤ m → fr e = -1 ∨ ∃ t : Nat, t < 12 ∧ fr e = nI t) ∧ (∀ e, e ≤ m → to e = -1 ∨ ∃ t : Nat, t < 12 ∧ to e = nI t) := by
  have h1 := cd_ne h
  obtain ⟨a, b, c, d⟩ := h
  refine ⟨by omega, fun e he => ?_, fun e he => ?_⟩
  · rcases (d e (by omega)).2 with g | ⟨t, g1, g2⟩
    · exact Or.inl g
    · exact Or.inr ⟨t, by omega, g2⟩
  · rcases (d e (by omega)).1 with g | ⟨t, g1, g2⟩
    · exact Or.inl g
    · exact Or.inr ⟨t, by omega, g2⟩
theorem cd_K0 {mn : Int32} {ne : Nat} {dm dk gone done went cut : Nat → Int32} : cd_K mn ne dm (cd_fo dk 0 2 (fun _ => 0)) gone done went cut := fun d hd h => absurd (cd_fo_in (by omega) (by omega)) h
theorem i_vc_weight {k : Nat} {u : SX} {v : SY} (I : i_Rel k u v) (hk : k + 6 ≤ 3072) (v1 : Int32) (v2 : Int32) : wpX_weight (fun r u' => wpY_weight (fun r' v' => r' = r ∧ i_Rel (k + 6) u' v') v v1 v2) u v1 v2 := by
  have I' := i_up I
  obtain ⟨x_blocks, x_builtBlocks, x_edges, x_paths, x_runX, x_runY, x_runDone, x_ops, x_operands, x_kinds, x_targets, x_builtOps, x_builtOperands, x_builtKinds, x_firstEdge, x_edgeFrom, x_edgeExit, x_edgeTo, x_edgeWeight, x_inTree, x_isBack, x_beginsPaths, x_firstPath, x_pathsFrom, x_pathsBefore, x_counts, x_dumped, x_dumpKept, x_looked, x_joined, x_met, x_nextExit, x_way⟩ := u
  obtain ⟨y_made, y_blocks, y_edges, y_paths, y_many, y_lastX, y_lastY, y_lastBlocks, y_op, y_number, y_kind, y_target, y_from, y_to, y_exit, y_weight, y_firstEdge, y_tree, y_back, y_row, y_length, y_gone, y_done, y_went, y_cut, y_kept, y_mark, y_way, y_tried, y_stack⟩ := v
  obtain ⟨n, nb, ne, np, rfl, rfl, rfl, rfl, rfl, rfl, rfl, rfl, rfl, rfl, rfl, rfl, rfl, rfl, rfl, rfl, rfl, rfl, hD, hB, hC, hK, hP⟩ := I
  have hne := cd_ne hB
  unfold wpX_weight wpX_isEdge wpY_weight
  dsimp only
  refine br_c (fun h => ?_) (fun h => ?_)
  · refine br_t rfl (cd_yin rfl (by omega) (fun _ => br_t rfl ⟨rfl, I'⟩) (fun j hj e => ?_))
    subst e; exact absurd h (nI_pos (by omega))
  obtain ⟨j, hj, rfl⟩ := nI_of h
  refine pk_le ne j (fun h1 => ?_) (fun h1 => ?_)
  · refine br_t rfl (cd_yin rfl (by omega) (fun _ => br_t rfl ⟨rfl, I'⟩) (fun i hi e => ?_))
    rw [nI_eq hj (by omega)] at e; omega
  obtain ⟨m, rfl⟩ : ∃ m, ne = m + 1 := ⟨ne - 1, by omega⟩
  obtain ⟨b1, b2, b3⟩ := cd_B37 hB rfl
  have cj := nI_clamp hj
  refine br_f (by decide) ⟨pk_in j 37 (by omega), nm_e (cd_xtree b1 b2 b3 (fun s hs => cd_xforget ?_))⟩
  refine cd_yin rfl (by omega) (fun hc => absurd rfl (hc j h1)) (fun i hi e => br_f (by decide) ⟨pk_in j 37 (by omega), nm_e (cd_yrenew b1 b2 b3 (fun e he => cd_fo_in (by omega) (by omega)) (fun p hp => cd_fo_in (by omega) (by omega)) hs (fun mk => ⟨rfl, ?_⟩))⟩)
  exact cd_mk n nb (m + 1) np hD hB (cd_C0 (cut0 := y_cut)) cd_K0 hP
