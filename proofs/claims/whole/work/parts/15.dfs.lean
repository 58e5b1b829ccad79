def cd_fu (f : Nat → Nat) (k v : Nat) : Nat → Nat := fun j => if j = k then v else f j
theorem cd_fus {f : Nat → Nat} {k v : Nat} : cd_fu f k v k = v := if_pos rfl
theorem cd_fun {f : Nat → Nat} {k v j : Nat} (h : j ≠ k) : cd_fu f k v j = f j := if_neg h
/-- an exit that was looked at -/
def cd_lo (nb : Nat) (to ib : Nat → Int32) (m : Nat → Nat) (e : Nat) (Q : Nat → Prop) : Prop := to e = -1 ∨ ∃ t : Nat, t < nb ∧ to e = nI t ∧ m t ≠ 0 ∧ (ib e = 0 → Q t)
/-- the walk's state: w the way (d long), m met, x next exits, rk ranks of the c left, G their numbers of paths -/
def cd_XI (nb d c : Nat) (bk to ib pf pb : Nat → Int32) (w m x rk G : Nat → Nat) : Prop :=
  (∀ i, i < d → w i < nb ∧ m (w i) = 1) ∧ (∀ i j, i < d → j < d → w i = w j → i = j) ∧ (∀ b, b < nb → m b = 1 → ∃ i, i < d ∧ w i = b) ∧
  (∀ b, b < nb → m b ≤ 2 ∧ x b ≤ cd_ec (bk b) ∧ (m b = 0 → x b = 0) ∧ (m b = 2 → x b = cd_ec (bk b))) ∧
  (c + d + cd_sm (fun b => if m b = 0 then 1 else 0) nb ≤ nb) ∧
  (∀ i, i < d → ∀ k, k < x (w i) → cd_lo nb to ib m (cd_fs bk (w i) + k) (fun t => m t = 2 ∨ (i + 1 < d ∧ k + 1 = x (w i) ∧ t = w (i + 1)))) ∧
  (∀ b, b < nb → m b = 2 → rk b < c ∧ ∀ k, k < cd_ec (bk b) → cd_lo nb to ib m (cd_fs bk b + k) (fun t => m t = 2 ∧ rk t < rk b)) ∧
  (∀ b, b < nb → ∀ k, x b ≤ k → k < cd_ec (bk b) → ib (cd_fs bk b + k) = 0) ∧
  (∀ b, b < nb → m b = 2 → pf b = nI (G b) ∧ G b = cd_sm (cd_wt bk to ib G b) (cd_ec (bk b)) ∧ G b ≤ 3 ^ (rk b + 1) ∧ ∀ k, k < cd_ec (bk b) → pb (cd_fs bk b + k) = nI (cd_sm (cd_wt bk to ib G b) k)) ∧
  m 0 ≠ 0 ∧ (∀ b, b < nb → ∀ k, k < cd_ec (bk b) → to (cd_fs bk b + k) = -1 → ib (cd_fs bk b + k) = 0)
/-- what is left to do -/
def cd_re (nb : Nat) (bk : Nat → Int32) (m x : Nat → Nat) : Nat := cd_sm (fun b => if m b = 2 then 0 else 1 + cd_ec (bk b) - x b) nb
theorem cd_wt_c {bk to ib ib' : Nat → Int32} {G G' : Nat → Nat} {b k : Nat} (h1 : ib' (cd_fs bk b + k) = ib (cd_fs bk b + k)) (h2 : ib (cd_fs bk b + k) = 0 → ¬ to (cd_fs bk b + k) = -1 → G' (to (cd_fs bk b + k)).toNatClampNeg = G (to (cd_fs bk b + k)).toNatClampNeg) : cd_wt bk to ib' G' b k = cd_wt bk to ib G b k := by
  unfold cd_wt
  rw [h1]
  by_cases g : ib (cd_fs bk b + k) = 0 ∧ ¬ to (cd_fs bk b + k) = -1
  · rw [if_pos g, if_pos g, h2 g.1 g.2]
  · rw [if_neg g, if_neg g]
/-- a block is left -/
theorem cd_XI_leave {nb d c : Nat} {bk to ib pf pb : Nat → Int32} {w m x rk G : Nat → Nat} (hnb : nb ≤ 12) (h : cd_XI nb (d + 1) c bk to ib pf pb w m x rk G) (hx : x (w d) = cd_ec (bk (w d))) :
    cd_XI nb d (c + 1) bk to ib (upd pf (w d) (nI (cd_sm (cd_wt bk to ib G (w d)) (cd_ec (bk (w d)))))) (cd_fo pb (cd_fs bk (w d)) (cd_ec (bk (w d))) (fun k => nI (cd_sm (cd_wt bk to ib G (w d)) k))) w (cd_fu m (w d) 2) x (cd_fu rk (w d) c) (cd_fu G (w d) (cd_sm (cd_wt bk to ib G (w d)) (cd_ec (bk (w d)))))
    ∧ cd_re nb bk m x = cd_re nb bk (cd_fu m (w d) 2) x + 1
    ∧ (∀ k, k < cd_ec (bk (w d)) → ¬ cd_en ib to (cd_fs bk (w d) + k) → ∃ t : Nat, t < nb ∧ to (cd_fs bk (w d) + k) = nI t ∧ pf t = nI (G t)) := by
  obtain ⟨h1, h2, h3, h4, h5, h6, h7, h8, h9, h10, h11⟩ := h
  obtain ⟨hb, hm⟩ := h1 d (by omega)
  have hwd : ∀ i, i < d → w i ≠ w d := fun i hi e => by have := h2 i d (by omega) (by omega) e; omega
  have hne2 : ∀ t, m t = 2 → t ≠ w d := fun t ht e => by rw [e, hm] at ht; omega
  have hlk : ∀ k, k < cd_ec (bk (w d)) → cd_lo nb to ib m (cd_fs bk (w d) + k) (fun t => m t = 2) := by
    intro k hk
    rcases h6 d (by omega) k (by omega) with g | ⟨t, t1, t2, t3, t4⟩
    · exact Or.inl g
    · refine Or.inr ⟨t, t1, t2, t3, fun z => ?_⟩
      rcases t4 z with g | g
      · exact g
      · omega
  generalize hbd : w d = b at *
  have hmb : ∀ t, cd_fu m b 2 t = 0 ↔ m t = 0 := by
    intro t
    by_cases e : t = b
    · subst e; rw [cd_fus]; omega
    · rw [cd_fun e]
  have hm2 : ∀ t, m t = 2 → cd_fu m b 2 t = 2 := by
    intro t ht
    rw [cd_fun (hne2 t ht)]; exact ht
  have hG2 : ∀ t, m t = 2 → cd_fu G b (cd_sm (cd_wt bk to ib G b) (cd_ec (bk b))) t = G t := fun t ht => cd_fun (hne2 t ht)
  have hr2 : ∀ t, m t = 2 → cd_fu rk b c t = rk t := fun t ht => cd_fun (hne2 t ht)
  have hwt : ∀ a, (∀ k, k < cd_ec (bk a) → cd_lo nb to ib m (cd_fs bk a + k) (fun t => m t = 2)) → ∀ k, k < cd_ec (bk a) → cd_wt bk to ib (cd_fu G b (cd_sm (cd_wt bk to ib G b) (cd_ec (bk b)))) a k = cd_wt bk to ib G a k := by
    intro a ha k hk
    refine cd_wt_c rfl (fun z1 z2 => ?_)
    obtain ⟨t, t1, t2, t3, t4⟩ := (ha k hk).resolve_left z2
    rw [t2, cd_cl (by omega)]
    exact hG2 t (t4 z1)
  refine ⟨⟨fun i hi => ?_, fun i j hi hj => h2 i j (by omega) (by omega), fun a ha hma => ?_, fun a ha => ?_, ?_, fun i hi k hk => ?_, fun a ha hma => ?_, h8, fun a ha hma => ?_, fun z => h10 ((hmb 0).mp z), h11⟩, ?_, fun k hk hen => ?_⟩
  · rw [cd_fun (hwd i hi)]
    exact h1 i (by omega)
  · by_cases e : a = b
    · subst e; rw [cd_fus] at hma; omega
    · rw [cd_fun e] at hma
      obtain ⟨i, hi, e2⟩ := h3 a ha hma
      refine ⟨i, ?_, e2⟩
      by_cases g : i = d
      · subst g; exact absurd (e2.symm.trans hbd) e
      · omega
  · obtain ⟨g1, g2, g3, g4⟩ := h4 a ha
    refine ⟨?_, g2, fun z => g3 ((hmb a).mp z), fun z => ?_⟩
    · by_cases e : a = b
      · subst e; rw [cd_fus]; omega
      · rw [cd_fun e]; exact g1
    · by_cases e : a = b
      · subst e; exact hx
      · rw [cd_fun e] at z; exact g4 z
  · have : cd_sm (fun a => if cd_fu m b 2 a = 0 then 1 else 0) nb = cd_sm (fun a => if m a = 0 then 1 else 0) nb := cd_sm_c nb (fun i _ => by
      show (if cd_fu m b 2 i = 0 then 1 else 0) = (if m i = 0 then 1 else 0)
      by_cases g : m i = 0
      · rw [if_pos g, if_pos ((hmb i).mpr g)]
      · rw [if_neg g, if_neg (fun z => g ((hmb i).mp z))])
    rw [this]
    omega
  · rcases h6 i (by omega) k hk with g | ⟨t, t1, t2, t3, t4⟩
    · exact Or.inl g
    · refine Or.inr ⟨t, t1, t2, fun z => t3 ((hmb t).mp z), fun z => ?_⟩
      rcases t4 z with g | ⟨g1, g2, g3⟩
      · exact Or.inl (hm2 t g)
      · by_cases e : i + 1 = d
        · refine Or.inl ?_
          rw [g3, e, hbd, cd_fus]
        · exact Or.inr ⟨by omega, g2, g3⟩
  · by_cases e : a = b
    · subst e
      rw [cd_fus]
      refine ⟨by omega, fun k hk => ?_⟩
      rcases hlk k hk with g | ⟨t, t1, t2, t3, t4⟩
      · exact Or.inl g
      · refine Or.inr ⟨t, t1, t2, fun z => t3 ((hmb t).mp z), fun z => ⟨hm2 t (t4 z), ?_⟩⟩
        rw [hr2 t (t4 z)]
        exact (h7 t t1 (t4 z)).1
    · rw [cd_fun e] at hma
      obtain ⟨g1, g2⟩ := h7 a ha hma
      rw [cd_fun e]
      refine ⟨by omega, fun k hk => ?_⟩
      rcases g2 k hk with g | ⟨t, t1, t2, t3, t4⟩
      · exact Or.inl g
      · refine Or.inr ⟨t, t1, t2, fun z => t3 ((hmb t).mp z), fun z => ⟨hm2 t (t4 z).1, ?_⟩⟩
        rw [hr2 t (t4 z).1]
        exact (t4 z).2
  · by_cases e : a = b
    · subst e
      have hw2 := hwt a hlk
      rw [pk_us, cd_fus, cd_fus]
      have e1 : ∀ k, k ≤ cd_ec (bk a) → cd_sm (cd_wt bk to ib (cd_fu G a (cd_sm (cd_wt bk to ib G a) (cd_ec (bk a)))) a) k = cd_sm (cd_wt bk to ib G a) k := fun k hk => cd_sm_c k (fun i hi => hw2 i (by omega))
      refine ⟨rfl, (e1 _ (Nat.le_refl _)).symm, ?_, fun k hk => ?_⟩
      · have hle := cd_sm_le (f := cd_wt bk to ib G a) (c := 3 ^ c) (cd_ec (bk a)) (fun k hk => by
          by_cases g : ib (cd_fs bk a + k) = 0 ∧ ¬ to (cd_fs bk a + k) = -1
          · unfold cd_wt
            rw [if_pos g]
            obtain ⟨t, t1, t2, t3, t4⟩ := (hlk k hk).resolve_left g.2
            rw [t2, cd_cl (by omega)]
            refine Nat.le_trans (h9 t t1 (t4 g.1)).2.2.1 ?_
            have := (h7 t t1 (t4 g.1)).1
            exact Nat.pow_le_pow_right (by omega) (by omega)
          · unfold cd_wt
            rw [if_neg g]
            exact Nat.one_le_pow _ _ (by omega))
        have hec := (cd_ec_r (bk a)).2
        have : cd_ec (bk a) * 3 ^ c ≤ 3 * 3 ^ c := Nat.mul_le_mul_right _ hec
        rw [Nat.pow_succ]
        omega
      · rw [cd_fo_k hk, e1 k (by omega)]
    · rw [cd_fun e] at hma
      obtain ⟨n1, n2, n3, n4⟩ := h9 a ha hma
      have hlka : ∀ k, k < cd_ec (bk a) → cd_lo nb to ib m (cd_fs bk a + k) (fun t => m t = 2) := by
        intro k hk
        rcases (h7 a ha hma).2 k hk with g | ⟨t, t1, t2, t3, t4⟩
        · exact Or.inl g
        · exact Or.inr ⟨t, t1, t2, t3, fun z => (t4 z).1⟩
      have hw2 := hwt a hlka
      have e1 : ∀ k, k ≤ cd_ec (bk a) → cd_sm (cd_wt bk to ib (cd_fu G b (cd_sm (cd_wt bk to ib G b) (cd_ec (bk b)))) a) k = cd_sm (cd_wt bk to ib G a) k := fun k hk => cd_sm_c k (fun i hi => hw2 i (by omega))
      rw [pk_un e, cd_fun e, cd_fun e, e1 _ (Nat.le_refl _)]
      refine ⟨n1, n2, n3, fun k hk => ?_⟩
      rw [e1 k (by omega), cd_fo_out ?_]
      · exact n4 k hk
      · by_cases g : a < b
        · have := cd_fs_lt (kd := bk) g
          omega
        · have := cd_fs_lt (kd := bk) (b := b) (c := a) (by omega)
          omega
  · have := cd_sm_u (f := fun a => if m a = 2 then 0 else 1 + cd_ec (bk a) - x a) (g := fun a => if cd_fu m b 2 a = 2 then 0 else 1 + cd_ec (bk a) - x a) (j := b) nb hb (fun i _ hi => by
      show (if cd_fu m b 2 i = 2 then 0 else 1 + cd_ec (bk i) - x i) = (if m i = 2 then 0 else 1 + cd_ec (bk i) - x i)
      rw [cd_fun hi])
    rw [cd_fus, if_pos rfl, if_neg (by omega)] at this
    unfold cd_re
    omega
  · have z1 : ib (cd_fs bk b + k) = 0 := Decidable.byContradiction (fun z => hen (Or.inl z))
    have z2 : ¬ to (cd_fs bk b + k) = -1 := fun z => hen (Or.inr z)
    obtain ⟨t, t1, t2, t3, t4⟩ := (hlk k hk).resolve_left z2
    exact ⟨t, t1, t2, (h9 t t1 (t4 z1)).1⟩
/-- an exit is looked at that leads to no new block -/
theorem cd_XI_look {nb d c : Nat} {bk to ib pf pb : Nat → Int32} {w m x rk G : Nat → Nat} {v : Int32} (hnb : nb ≤ 12) (h : cd_XI nb (d + 1) c bk to ib pf pb w m x rk G) (hx : x (w d) < cd_ec (bk (w d)))
    (hv : cd_lo nb to (fun _ => v) m (cd_fs bk (w d) + x (w d)) (fun t => m t = 2)) (hv0 : to (cd_fs bk (w d) + x (w d)) = -1 → v = 0) :
    cd_XI nb (d + 1) c bk to (upd ib (cd_fs bk (w d) + x (w d)) v) pf pb w m (cd_fu x (w d) (x (w d) + 1)) rk G ∧ cd_re nb bk m x = cd_re nb bk m (cd_fu x (w d) (x (w d) + 1)) + 1 := by
  obtain ⟨h1, h2, h3, h4, h5, h6, h7, h8, h9, h10, h11⟩ := h
  obtain ⟨hb, hm⟩ := h1 d (by omega)
  have hwd : ∀ i, i < d → w i ≠ w d := fun i hi e => by have := h2 i d (by omega) (by omega) e; omega
  have hne : ∀ a k, k < cd_ec (bk a) → (a = w d → k ≠ x (w d)) → cd_fs bk a + k ≠ cd_fs bk (w d) + x (w d) := by
    intro a k hk ha e
    obtain ⟨g1, g2⟩ := cd_fs_inj hk hx e
    exact ha g1 g2
  have hne2 : ∀ t, m t = 2 → t ≠ w d := fun t ht e => by rw [e, hm] at ht; omega
  have hxw : ∀ i, i < d + 1 → x (w i) ≤ cd_ec (bk (w i)) := fun i hi => (h4 (w i) (h1 i hi).1).2.1
  refine ⟨⟨h1, h2, h3, fun a ha => ?_, h5, fun i hi k hk => ?_, fun a ha hma => ⟨(h7 a ha hma).1, fun k hk => ?_⟩, fun a ha k hk1 hk2 => ?_, fun a ha hma => ?_, h10, fun a ha k hk hz => ?_⟩, ?_⟩
  · obtain ⟨g1, g2, g3, g4⟩ := h4 a ha
    by_cases e : a = w d
    · subst e
      rw [cd_fus]
      exact ⟨g1, by omega, fun z => by omega, fun z => by omega⟩
    · rw [cd_fun e]; exact ⟨g1, g2, g3, g4⟩
  · by_cases e : i = d
    · subst e
      rw [cd_fus] at hk
      by_cases g : k = x (w i)
      · subst g
        rcases hv with g | ⟨t, t1, t2, t3, t4⟩
        · exact Or.inl g
        · refine Or.inr ⟨t, t1, t2, t3, fun z => Or.inl (t4 ?_)⟩
          rw [pk_us] at z
          exact z
      · rcases h6 i hi k (by omega) with g2 | ⟨t, t1, t2, t3, t4⟩
        · exact Or.inl g2
        · refine Or.inr ⟨t, t1, t2, t3, fun z => ?_⟩
          rw [pk_un (hne (w i) k (by omega) (fun _ => g))] at z
          rcases t4 z with g3 | g3
          · exact Or.inl g3
          · omega
    · have e2 := hwd i (by omega)
      rw [cd_fun e2] at hk
      have := hxw i hi
      rcases h6 i hi k hk with g2 | ⟨t, t1, t2, t3, t4⟩
      · exact Or.inl g2
      · refine Or.inr ⟨t, t1, t2, t3, fun z => ?_⟩
        rw [pk_un (hne (w i) k (by omega) (fun g => absurd g e2))] at z
        rw [cd_fun e2]
        exact t4 z
  · have e := hne2 a hma
    rcases (h7 a ha hma).2 k hk with g | ⟨t, t1, t2, t3, t4⟩
    · exact Or.inl g
    · refine Or.inr ⟨t, t1, t2, t3, fun z => ?_⟩
      rw [pk_un (hne a k hk (fun g => absurd g e))] at z
      exact t4 z
  · by_cases e : a = w d
    · subst e
      rw [cd_fus] at hk1
      rw [pk_un (hne (w d) k hk2 (fun _ => by omega))]
      exact h8 (w d) ha k (by omega) hk2
    · rw [cd_fun e] at hk1
      rw [pk_un (hne a k hk2 (fun g => absurd g e))]
      exact h8 a ha k hk1 hk2
  · have e := hne2 a hma
    obtain ⟨n1, n2, n3, n4⟩ := h9 a ha hma
    have e1 : ∀ k, k ≤ cd_ec (bk a) → cd_sm (cd_wt bk to (upd ib (cd_fs bk (w d) + x (w d)) v) G a) k = cd_sm (cd_wt bk to ib G a) k := fun k hk => cd_sm_c k (fun i hi => cd_wt_c (pk_un (hne a i (by omega) (fun g => absurd g e))) (fun _ _ => rfl))
    rw [e1 _ (Nat.le_refl _)]
    exact ⟨n1, n2, n3, fun k hk => by rw [e1 k (by omega)]; exact n4 k hk⟩
  · by_cases g : cd_fs bk a + k = cd_fs bk (w d) + x (w d)
    · rw [g] at hz
      rw [g, pk_us]; exact hv0 hz
    · rw [pk_un g]; exact h11 a ha k hk hz
  · have := cd_sm_u (f := fun a => if m a = 2 then 0 else 1 + cd_ec (bk a) - x a) (g := fun a => if m a = 2 then 0 else 1 + cd_ec (bk a) - cd_fu x (w d) (x (w d) + 1) a) (j := w d) nb hb (fun i _ hi => by
      show (if m i = 2 then 0 else 1 + cd_ec (bk i) - cd_fu x (w d) (x (w d) + 1) i) = (if m i = 2 then 0 else 1 + cd_ec (bk i) - x i)
      rw [cd_fun hi])
    rw [cd_fus, if_neg (by omega), if_neg (by omega)] at this
    unfold cd_re
    omega
/-- an exit is looked at that leads to a new block -/
theorem cd_XI_push {nb d c t : Nat} {bk to ib pf pb : Nat → Int32} {w m x rk G : Nat → Nat} (hnb : nb ≤ 12) (h : cd_XI nb (d + 1) c bk to ib pf pb w m x rk G) (hx : x (w d) < cd_ec (bk (w d)))
    (ht : t < nb) (hte : to (cd_fs bk (w d) + x (w d)) = nI t) (hmt : m t = 0) :
    cd_XI nb (d + 1 + 1) c bk to ib pf pb (cd_fu w (d + 1) t) (cd_fu m t 1) (cd_fu x (w d) (x (w d) + 1)) rk G ∧ cd_re nb bk m x = cd_re nb bk (cd_fu m t 1) (cd_fu x (w d) (x (w d) + 1)) + 1 ∧ d + 1 < nb := by
  obtain ⟨h1, h2, h3, h4, h5, h6, h7, h8, h9, h10, h11⟩ := h
  obtain ⟨hb, hm⟩ := h1 d (by omega)
  have htd : t ≠ w d := fun e => by rw [e, hm] at hmt; omega
  have hwd : ∀ i, i < d → w i ≠ w d := fun i hi e => by have := h2 i d (by omega) (by omega) e; omega
  have hwt : ∀ i, i < d + 1 → w i ≠ t := fun i hi e => by have := (h1 i hi).2; rw [e, hmt] at this; omega
  have hne2 : ∀ a, m a = 2 → a ≠ t := fun a ha e => by rw [e, hmt] at ha; omega
  have hwn : ∀ i, i < d + 1 → cd_fu w (d + 1) t i = w i := fun i hi => cd_fun (by omega)
  have hmne : ∀ a, m a ≠ 0 → cd_fu m t 1 a ≠ 0 := by
    intro a ha
    by_cases e : a = t
    · subst e; rw [cd_fus]; omega
    · rw [cd_fun e]; exact ha
  have hsum : cd_sm (fun b => if cd_fu m t 1 b = 0 then 1 else 0) nb + 1 = cd_sm (fun b => if m b = 0 then 1 else 0) nb := by
    have := cd_sm_u (f := fun b => if m b = 0 then 1 else 0) (g := fun b => if cd_fu m t 1 b = 0 then 1 else 0) (j := t) nb ht (fun i _ hi => by
      show (if cd_fu m t 1 i = 0 then 1 else 0) = (if m i = 0 then 1 else 0)
      rw [cd_fun hi])
    rw [cd_fus, if_pos hmt, if_neg (by decide)] at this
    omega
  refine ⟨⟨fun i hi => ?_, fun i j hi hj e => ?_, fun a ha hma => ?_, fun a ha => ?_, by omega, fun i hi k hk => ?_, fun a ha hma => ?_, fun a ha k hk1 hk2 => ?_, fun a ha hma => ?_, hmne 0 h10, h11⟩, ?_, ?_⟩
  · by_cases e : i = d + 1
    · subst e; rw [cd_fus, cd_fus]; exact ⟨ht, rfl⟩
    · rw [hwn i (by omega), cd_fun (hwt i (by omega))]; exact h1 i (by omega)
  · by_cases e1 : i = d + 1
    · by_cases e2 : j = d + 1
      · omega
      · rw [e1, cd_fus, hwn j (by omega)] at e
        exact absurd e.symm (hwt j (by omega))
    · by_cases e2 : j = d + 1
      · rw [e2, cd_fus, hwn i (by omega)] at e
        exact absurd e (hwt i (by omega))
      · rw [hwn i (by omega), hwn j (by omega)] at e
        exact h2 i j (by omega) (by omega) e
  · by_cases e : a = t
    · exact ⟨d + 1, by omega, by rw [cd_fus]; exact e.symm⟩
    · rw [cd_fun e] at hma
      obtain ⟨i, hi, e2⟩ := h3 a ha hma
      exact ⟨i, by omega, by rw [hwn i hi]; exact e2⟩
  · obtain ⟨g1, g2, g3, g4⟩ := h4 a ha
    by_cases e : a = w d
    · subst e
      rw [cd_fus, cd_fun (fun z => htd z.symm)]
      exact ⟨g1, by omega, fun z => by omega, fun z => by omega⟩
    · rw [cd_fun (f := x) e]
      by_cases e2 : a = t
      · subst e2
        rw [cd_fus]
        exact ⟨by omega, g2, fun z => by omega, fun z => by omega⟩
      · rw [cd_fun e2]; exact ⟨g1, g2, g3, g4⟩
  · by_cases e : i = d + 1
    · subst e
      rw [cd_fus, cd_fun htd] at hk
      have := (h4 t ht).2.2.1 hmt
      omega
    · have hi' : i < d + 1 := by omega
      rw [hwn i hi'] at hk ⊢
      by_cases e2 : i = d
      · subst e2
        rw [cd_fus] at hk
        by_cases g : k = x (w i)
        · subst g
          refine Or.inr ⟨t, ht, hte, by rw [cd_fus]; omega, fun _ => Or.inr ⟨by omega, by rw [cd_fus], by rw [cd_fus]⟩⟩
        · rcases h6 i hi' k (by omega) with g2 | ⟨s, t1, t2, t3, t4⟩
          · exact Or.inl g2
          · refine Or.inr ⟨s, t1, t2, hmne s t3, fun z => ?_⟩
            rcases t4 z with g3 | g3
            · refine Or.inl ?_
              rw [cd_fun (hne2 s g3)]; exact g3
            · omega
      · have e3 := hwd i (by omega)
        rw [cd_fun e3] at hk
        rcases h6 i hi' k hk with g2 | ⟨s, t1, t2, t3, t4⟩
        · exact Or.inl g2
        · refine Or.inr ⟨s, t1, t2, hmne s t3, fun z => ?_⟩
          rcases t4 z with g3 | ⟨g3, g4, g5⟩
          · refine Or.inl ?_
            rw [cd_fun (hne2 s g3)]; exact g3
          · refine Or.inr ⟨by omega, ?_, ?_⟩
            · rw [cd_fun e3]; exact g4
            · rw [hwn (i + 1) (by omega)]; exact g5
  · have hma2 : m a = 2 := by
      by_cases e : a = t
      · subst e; rw [cd_fus] at hma; omega
      · rw [cd_fun e] at hma; exact hma
    refine ⟨(h7 a ha hma2).1, fun k hk => ?_⟩
    rcases (h7 a ha hma2).2 k hk with g | ⟨s, t1, t2, t3, t4⟩
    · exact Or.inl g
    · refine Or.inr ⟨s, t1, t2, hmne s t3, fun z => ⟨?_, (t4 z).2⟩⟩
      rw [cd_fun (hne2 s (t4 z).1)]; exact (t4 z).1
  · by_cases e : a = w d
    · subst e
      rw [cd_fus] at hk1
      exact h8 (w d) ha k (by omega) hk2
    · rw [cd_fun e] at hk1
      exact h8 a ha k hk1 hk2
  · have hma2 : m a = 2 := by
      by_cases e : a = t
      · subst e; rw [cd_fus] at hma; omega
      · rw [cd_fun e] at hma; exact hma
    exact h9 a ha hma2
  · have s1 := cd_sm_u (f := fun a => if m a = 2 then 0 else 1 + cd_ec (bk a) - x a) (g := fun a => if cd_fu m t 1 a = 2 then 0 else 1 + cd_ec (bk a) - cd_fu x (w d) (x (w d) + 1) a) (j := w d) nb hb (fun i _ hi => by
      show (if cd_fu m t 1 i = 2 then 0 else 1 + cd_ec (bk i) - cd_fu x (w d) (x (w d) + 1) i) = (if m i = 2 then 0 else 1 + cd_ec (bk i) - x i)
      rw [cd_fun hi]
      by_cases e : i = t
      · subst e; rw [cd_fus, if_neg (by omega), if_neg (by omega)]
      · rw [cd_fun e])
    rw [cd_fus, cd_fun (fun z => htd z.symm), if_neg (by omega), if_neg (by omega)] at s1
    unfold cd_re
    omega
  · omega
