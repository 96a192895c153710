/-- both states say the same places, roads, wanted set and weights; the component's two sets of a road are those of the reference's two ends -/
def i_Rel (_ : Nat) (u : SX) (v : SY) : Prop := ∃ (p m : Nat) (w : Int32) (t f g h : Nat → Int32), 2 ≤ p ∧ p ≤ 7 ∧ m ≤ 12 ∧ u = (nI p, nI m, w, t, tj_od f g, h) ∧ v = (nI p, nI m, w, f, g, h) ∧ tj_ends p m t f g
theorem fr_R {k p m : Nat} {w : Int32} {t f g h : Nat → Int32} (h2 : 2 ≤ p) (h7 : p ≤ 7) (hm : m ≤ 12) (he : tj_ends p m t f g) : i_Rel k (nI p, nI m, w, t, tj_od f g, h) (nI p, nI m, w, f, g, h) := ⟨p, m, w, t, f, g, h, h2, h7, hm, rfl, rfl, he⟩
theorem fr_ix (x : Int32) {n : Nat} (hn : n ≤ 12) : (x < 0 ∨ nI n ≤ x) ∨ ∃ j : Nat, j < n ∧ x = nI j := by
  rcases pk_ix x (n := n) (by omega) with a | a | a
  · exact Or.inl (Or.inl a)
  · exact Or.inl (Or.inr a)
  · exact Or.inr a
theorem i_up {k : Nat} {u : SX} {v : SY} (h : i_Rel k u v) : i_Rel (k + 4) u v := h
theorem fr_od0 : tj_od (fun _ => 0) (fun _ => 0) = fun _ => 0 := funext fun _ => (by decide : ((1 : Int32) <<< ((0 : Int32) &&& 31)) ^^^ ((1 : Int32) <<< ((0 : Int32) &&& 31)) = 0)
theorem fr_0 {p : Nat} (h2 : 2 ≤ p) (h7 : p ≤ 7) : i_Rel 1 (nI p, 0, 0, (fun _ => 0), (fun _ => 0), (fun _ => 0)) (nI p, 0, 0, (fun _ => 0), (fun _ => 0), (fun _ => 0)) := by
  have a := fr_R (k := 1) (p := p) (m := 0) (w := 0) (t := fun _ => 0) (f := fun _ => 0) (g := fun _ => 0) (h := fun _ => 0) h2 h7 (by omega) tj_ends_0
  rw [fr_od0] at a
  exact a
theorem i_vc0 (k0 : Int32) : wpX_init (fun u => wpY_init (fun v => i_Rel 1 u v) k0) k0 := by
  unfold wpX_init wpY_init
  by_cases a : 2 ≤ k0
  · by_cases b : k0 ≤ 7
    · obtain ⟨j, hj, rfl⟩ := nI_of2 (x := k0) (M := 7) (n := 7) (by decide) (Int32.not_lt.mpr (Int32.le_trans (by decide) a)) b
      have c : 2 ≤ j := (nI_leI (a := 2) (b := j) (by decide) (by omega)).mp a
      exact br_t a (br_t b (br_t a (br_t b (fr_0 c hj))))
    · exact br_t a (br_f b (br_t a (br_f b (fr_0 (p := 7) (by omega) (by omega)))))
  · exact br_f a (br_f a (fr_0 (p := 2) (by omega) (by omega)))
theorem fr_road {k p m i j : Nat} {w x : Int32} {t f g h : Nat → Int32} (h2 : 2 ≤ p) (h7 : p ≤ 7) (hm : m < 12) (he : tj_ends p m t f g) (hi : i < p) (hj : j < p) : i_Rel k (nI p, nI (m + 1), w, upd t m (((1 : Int32) <<< (nI i &&& 31)) ||| ((1 : Int32) <<< (nI j &&& 31))), upd (tj_od f g) m (((1 : Int32) <<< (nI i &&& 31)) ^^^ ((1 : Int32) <<< (nI j &&& 31))), upd h m x) (nI p, nI (m + 1), w, upd f m (nI i), upd g m (nI j), upd h m x) := by
  rw [tj_od_u]
  exact fr_R h2 h7 (by omega) (tj_ends_u he hi hj)
theorem i_vc_road {k : Nat} {u : SX} {v : SY} (I : i_Rel k u v) (hk : k + 4 ≤ 2049) (v1 : Int32) (v2 : Int32) (v3 : Int32) : wpX_road (fun r u' => wpY_road (fun r' v' => r' = r ∧ i_Rel (k + 4) u' v') v v1 v2 v3) u v1 v2 v3 := by
  obtain ⟨p, m, w, t, f, g, h, h2, h7, hm, rfl, rfl, he⟩ := I
  have R := fr_R (k := k + 4) (w := w) (h := h) h2 h7 hm he
  have hc : (nI m).toNatClampNeg = m := nI_clamp (by omega)
  unfold wpX_road wpY_road
  dsimp only
  rw [hc]
  rcases fr_ix v1 (n := p) (by omega) with a | ⟨i, hi, rfl⟩
  · exact tx_pl0 a (br_t rfl (ty_pl0 a (br_f tj_10 ⟨rfl, R⟩)))
  · rcases fr_ix v2 (n := p) (by omega) with b | ⟨j, hj, rfl⟩
    · exact tx_pl1 h7 hi (br_f tj_10 (tx_pl0 b (br_t rfl (ty_pl1 h7 hi (br_t rfl (ty_pl0 b (br_f tj_10 ⟨rfl, R⟩)))))))
    · refine tx_pl1 h7 hi (br_f tj_10 (tx_pl1 h7 hj (br_f tj_10 ?_)))
      by_cases c : v3 < -9 ∨ 20 < v3
      · exact tx_wt0 c (br_t rfl (ty_pl1 h7 hi (br_t rfl (ty_pl1 h7 hj (br_t rfl (ty_wt0 c (br_f tj_10 ⟨rfl, R⟩)))))))
      · have c1 : ¬ v3 < -9 := fun z => c (Or.inl z)
        have c2 : ¬ 20 < v3 := fun z => c (Or.inr z)
        refine tx_wt1 c1 c2 (br_f tj_10 ?_)
        rcases Nat.lt_or_ge m 12 with d | d
        · have v : vp_in (nI m) 12 := vp_in_nI d (by decide)
          refine br_t (nI_lt (b := 12) d (by decide)) ⟨v, nm_e ⟨v, nm_e ⟨v, nm_e (nm_r (nI_1 m) ?_)⟩⟩⟩
          refine ty_pl1 h7 hi (br_t rfl (ty_pl1 h7 hj (br_t rfl (ty_wt1 c1 c2 (br_t rfl ?_)))))
          exact br_t (nI_le (b := 11) (by omega) (by decide)) ⟨v, nm_e ⟨v, nm_e ⟨v, nm_e (nm_r (nI_1 m) ⟨rfl, fr_road h2 h7 d he hi hj⟩)⟩⟩⟩
        · refine br_f (nI_nlt (b := 12) d (by omega)) ?_
          exact ty_pl1 h7 hi (br_t rfl (ty_pl1 h7 hj (br_t rfl (ty_wt1 c1 c2 (br_t rfl (br_f (fun z => absurd ((nI_leI (b := 11) (by omega) (by decide)).mp z) (by omega)) ⟨rfl, R⟩))))))
theorem i_vc_remove {k : Nat} {u : SX} {v : SY} (I : i_Rel k u v) (hk : k + 4 ≤ 2049) (v1 : Int32) : wpX_remove (fun r u' => wpY_remove (fun r' v' => r' = r ∧ i_Rel (k + 4) u' v') v v1) u v1 := by
  obtain ⟨p, m, w, t, f, g, h, h2, h7, hm, rfl, rfl, he⟩ := I
  have R := fr_R (k := k + 4) (w := w) (h := h) h2 h7 hm he
  unfold wpX_remove wpY_remove
  dsimp only
  rcases fr_ix v1 hm with a | ⟨i, hi, rfl⟩
  · exact tx_rd0 a (br_t rfl (ty_rd0 a (br_f tj_10 ⟨rfl, R⟩)))
  · obtain ⟨q, rfl⟩ : ∃ q, m = q + 1 := ⟨m - 1, by omega⟩
    have R2 : i_Rel (k + 4) (nI p, nI q, w, tj_shf t i q, tj_shf (tj_od f g) i q, tj_shf h i q) (nI p, nI q, w, tj_shf f i q, tj_shf g i q, tj_shf h i q) := by
      rw [tj_od_s]
      exact fr_R h2 h7 (by omega) (tj_ends_s he)
    refine tx_rd1 hm hi (br_f tj_10 (tx_rem0 hm (by omega) ?_))
    refine ty_rd1 hm hi (br_t rfl (ty_rem0 hm (by omega) ?_))
    exact ⟨rfl, R2⟩
theorem i_vc_weigh {k : Nat} {u : SX} {v : SY} (I : i_Rel k u v) (hk : k + 4 ≤ 2049) (v1 : Int32) (v2 : Int32) : wpX_weigh (fun r u' => wpY_weigh (fun r' v' => r' = r ∧ i_Rel (k + 4) u' v') v v1 v2) u v1 v2 := by
  obtain ⟨p, m, w, t, f, g, h, h2, h7, hm, rfl, rfl, he⟩ := I
  have R := fr_R (k := k + 4) (w := w) (h := h) h2 h7 hm he
  unfold wpX_weigh wpY_weigh
  dsimp only
  rcases fr_ix v1 hm with a | ⟨i, hi, rfl⟩
  · exact tx_rd0 a (br_t rfl (ty_rd0 a (br_f tj_10 ⟨rfl, R⟩)))
  · refine tx_rd1 hm hi (br_f tj_10 ?_)
    by_cases c : v2 < -9 ∨ 20 < v2
    · exact tx_wt0 c (br_t rfl (ty_rd1 hm hi (br_t rfl (ty_wt0 c (br_f tj_10 ⟨rfl, R⟩)))))
    · have c1 : ¬ v2 < -9 := fun z => c (Or.inl z)
      have c2 : ¬ 20 < v2 := fun z => c (Or.inr z)
      have v : vp_in (nI i) 12 := vp_in_nI (by omega) (by decide)
      refine tx_wt1 c1 c2 (br_f tj_10 ⟨v, nm_e ⟨v, nm_e ?_⟩⟩)
      refine ty_rd1 hm hi (br_t rfl (ty_wt1 c1 c2 (br_t rfl ⟨v, nm_e ⟨v, nm_e ?_⟩⟩)))
      exact ⟨rfl, fr_R h2 h7 hm he⟩
theorem i_vc_want {k : Nat} {u : SX} {v : SY} (I : i_Rel k u v) (hk : k + 4 ≤ 2049) (v1 : Int32) : wpX_want (fun r u' => wpY_want (fun r' v' => r' = r ∧ i_Rel (k + 4) u' v') v v1) u v1 := by
  obtain ⟨p, m, w, t, f, g, h, h2, h7, hm, rfl, rfl, he⟩ := I
  have R := fr_R (k := k + 4) (w := w) (h := h) h2 h7 hm he
  unfold wpX_want wpX_isSetOf wpY_want
  dsimp only
  by_cases a : v1 < 0
  · exact br_t a (br_t rfl (br_t a ⟨rfl, R⟩))
  · by_cases b : (1 : Int32) <<< (nI p &&& 31) ≤ v1
    · exact br_f a (br_t b (br_t rfl (br_f a (br_f (Int32.not_lt.mpr b) ⟨rfl, R⟩))))
    · exact br_f a (br_f b (br_f tj_10 (br_f a (br_t (Int32.not_le.mp b) ⟨rfl, fr_R h2 h7 hm he⟩))))
theorem i_vc_turn {k : Nat} {u : SX} {v : SY} (I : i_Rel k u v) (hk : k + 4 ≤ 2049) (v1 : Int32) : wpX_turn (fun r u' => wpY_turn (fun r' v' => r' = r ∧ i_Rel (k + 4) u' v') v v1) u v1 := by
  obtain ⟨p, m, w, t, f, g, h, h2, h7, hm, rfl, rfl, he⟩ := I
  have R := fr_R (k := k + 4) (w := w) (h := h) h2 h7 hm he
  unfold wpX_turn wpY_turn
  dsimp only
  rcases fr_ix v1 (n := p) (by omega) with a | ⟨i, hi, rfl⟩
  · exact tx_pl0 a (br_t rfl (ty_pl0 a (br_f tj_10 ⟨rfl, R⟩)))
  · refine tx_pl1 h7 hi (br_f tj_10 (nm_e ?_))
    refine ty_pl1 h7 hi (br_t rfl (nm_e ?_))
    exact ⟨rfl, fr_R h2 h7 hm he⟩
theorem i_vc_roads {k : Nat} {u : SX} {v : SY} (I : i_Rel k u v) (hk : k + 4 ≤ 2049) : wpX_roads (fun r => wpY_roads (fun r' => r' = r ∧ i_Rel (k + 4) u v) v) u := by
  obtain ⟨p, m, w, t, f, g, h, h2, h7, hm, rfl, rfl, he⟩ := I
  have R := fr_R (k := k + 4) (w := w) (h := h) h2 h7 hm he
  exact ⟨rfl, R⟩
theorem i_vc_isJoin {k : Nat} {u : SX} {v : SY} (I : i_Rel k u v) (hk : k + 4 ≤ 2049) (v1 : Int32) : wpX_isJoin (fun r => wpY_isJoin (fun r' => r' = r ∧ i_Rel (k + 4) u v) v v1) u v1 := by
  obtain ⟨p, m, w, t, f, g, h, h2, h7, hm, rfl, rfl, he⟩ := I
  have R := fr_R (k := k + 4) (w := w) (h := h) h2 h7 hm he
  unfold wpX_isJoin wpX_isSetOf wpY_isJoin
  dsimp only
  by_cases a : v1 < 0
  · exact br_t a (br_t rfl (br_t a ⟨rfl, R⟩))
  · by_cases b : (1 : Int32) <<< (nI m &&& 31) ≤ v1
    · exact br_f a (br_t b (br_t rfl (br_f a (br_f (Int32.not_lt.mpr b) ⟨rfl, R⟩))))
    · refine br_f a (br_f b (br_f tj_10 (tx_odd hm (br_c (fun e => ?_) (fun e => ?_)))))
      · refine br_f a (br_t (Int32.not_le.mp b) (ty_odd hm ?_))
        exact br_t e ⟨rfl, R⟩
      · refine br_f a (br_t (Int32.not_le.mp b) (ty_odd hm ?_))
        exact br_f e ⟨rfl, R⟩
theorem i_vc_possible {k : Nat} {u : SX} {v : SY} (I : i_Rel k u v) (hk : k + 4 ≤ 2049) : wpX_possible (fun r => wpY_possible (fun r' => r' = r ∧ i_Rel (k + 4) u v) v) u := by
  obtain ⟨p, m, w, t, f, g, h, h2, h7, hm, rfl, rfl, he⟩ := I
  have R := fr_R (k := k + 4) (w := w) (h := h) h2 h7 hm he
  have ng := tj_bst_neg (tj_X (tj_od f g) m) (tj_S h m) w 0 0 (n := 2 ^ m) (tj_pow m (by omega)).2.1
  unfold wpX_possible wpY_possible
  dsimp only
  by_cases e : (tj_bst (tj_X (tj_od f g) m) (tj_S h m) w 0 0 (2 ^ m)).1 = -1
  · refine tx_best hm (br_t e (ty_best hm ?_))
    exact br_f (Int32.not_le.mpr (ng.mpr e)) ⟨rfl, R⟩
  · refine tx_best hm (br_f e (ty_best hm ?_))
    exact br_t (Int32.not_lt.mp (fun z => e (ng.mp z))) ⟨rfl, R⟩
theorem i_vc_joins {k : Nat} {u : SX} {v : SY} (I : i_Rel k u v) (hk : k + 4 ≤ 2049) : wpX_joins (fun r => wpY_joins (fun r' => r' = r ∧ i_Rel (k + 4) u v) v) u := by
  obtain ⟨p, m, w, t, f, g, h, h2, h7, hm, rfl, rfl, he⟩ := I
  have R := fr_R (k := k + 4) (w := w) (h := h) h2 h7 hm he
  refine tx_joins hm ?_
  refine ty_joins hm ?_
  exact ⟨rfl, R⟩
theorem i_vc_best {k : Nat} {u : SX} {v : SY} (I : i_Rel k u v) (hk : k + 4 ≤ 2049) : wpX_best (fun r => wpY_best (fun r' => r' = r ∧ i_Rel (k + 4) u v) v) u := by
  obtain ⟨p, m, w, t, f, g, h, h2, h7, hm, rfl, rfl, he⟩ := I
  have R := fr_R (k := k + 4) (w := w) (h := h) h2 h7 hm he
  unfold wpX_best wpY_best
  dsimp only
  refine tx_bw hm ?_
  refine ty_bw (post := fun r' => r' = _ ∧ _) hm ?_
  exact ⟨rfl, R⟩
theorem i_vc_bestSet {k : Nat} {u : SX} {v : SY} (I : i_Rel k u v) (hk : k + 4 ≤ 2049) : wpX_bestSet (fun r => wpY_bestSet (fun r' => r' = r ∧ i_Rel (k + 4) u v) v) u := by
  obtain ⟨p, m, w, t, f, g, h, h2, h7, hm, rfl, rfl, he⟩ := I
  have R := fr_R (k := k + 4) (w := w) (h := h) h2 h7 hm he
  unfold wpX_bestSet wpY_bestSet
  dsimp only
  refine tx_best hm ?_
  refine ty_best hm ?_
  exact ⟨rfl, R⟩
theorem i_vc_bestWith {k : Nat} {u : SX} {v : SY} (I : i_Rel k u v) (hk : k + 4 ≤ 2049) (v1 : Int32) : wpX_bestWith (fun r => wpY_bestWith (fun r' => r' = r ∧ i_Rel (k + 4) u v) v v1) u v1 := by
  obtain ⟨p, m, w, t, f, g, h, h2, h7, hm, rfl, rfl, he⟩ := I
  have R := fr_R (k := k + 4) (w := w) (h := h) h2 h7 hm he
  unfold wpX_bestWith wpY_bestWith
  dsimp only
  rcases fr_ix v1 hm with a | ⟨i, hi, rfl⟩
  · exact tx_rd0 a (br_t rfl (ty_rd0 a (br_f tj_10 ⟨rfl, R⟩)))
  · refine tx_rd1 hm hi (br_f tj_10 (tx_bw hm ?_))
    refine ty_rd1 hm hi (br_t rfl (ty_bw (post := fun r' => r' = _ ∧ _) hm ?_))
    exact ⟨rfl, R⟩
theorem i_vc_bestWithout {k : Nat} {u : SX} {v : SY} (I : i_Rel k u v) (hk : k + 4 ≤ 2049) (v1 : Int32) : wpX_bestWithout (fun r => wpY_bestWithout (fun r' => r' = r ∧ i_Rel (k + 4) u v) v v1) u v1 := by
  obtain ⟨p, m, w, t, f, g, h, h2, h7, hm, rfl, rfl, he⟩ := I
  have R := fr_R (k := k + 4) (w := w) (h := h) h2 h7 hm he
  unfold wpX_bestWithout wpY_bestWithout
  dsimp only
  rcases fr_ix v1 hm with a | ⟨i, hi, rfl⟩
  · exact tx_rd0 a (br_t rfl (ty_rd0 a (br_f tj_10 ⟨rfl, R⟩)))
  · refine tx_rd1 hm hi (br_f tj_10 (tx_bw hm ?_))
    refine ty_rd1 hm hi (br_t rfl (ty_bw (post := fun r' => r' = _ ∧ _) hm ?_))
    exact ⟨rfl, R⟩
theorem i_vc_between {k : Nat} {u : SX} {v : SY} (I : i_Rel k u v) (hk : k + 4 ≤ 2049) (v1 : Int32) (v2 : Int32) : wpX_between (fun r => wpY_between (fun r' => r' = r ∧ i_Rel (k + 4) u v) v v1 v2) u v1 v2 := by
  obtain ⟨p, m, w, t, f, g, h, h2, h7, hm, rfl, rfl, he⟩ := I
  have R := fr_R (k := k + 4) (w := w) (h := h) h2 h7 hm he
  unfold wpX_between wpY_between
  dsimp only
  rcases fr_ix v1 (n := p) (by omega) with a | ⟨i, hi, rfl⟩
  · exact tx_pl0 a (br_t rfl (ty_pl0 a (br_f tj_10 ⟨rfl, R⟩)))
  · refine tx_pl1 h7 hi (br_f tj_10 ?_)
    rcases fr_ix v2 (n := p) (by omega) with b | ⟨j, hj, rfl⟩
    · exact tx_pl0 b (br_t rfl (ty_pl1 h7 hi (br_t rfl (ty_pl0 b (br_f tj_10 ⟨rfl, R⟩)))))
    · refine tx_pl1 h7 hj (br_f tj_10 (tx_bw hm ?_))
      refine ty_pl1 h7 hi (br_t rfl (ty_pl1 h7 hj (br_t rfl (ty_bw (post := fun r' => r' = _ ∧ _) hm ?_))))
      exact ⟨rfl, R⟩
theorem i_vc_postman {k : Nat} {u : SX} {v : SY} (I : i_Rel k u v) (hk : k + 4 ≤ 2049) : wpX_postman (fun r => wpY_postman (fun r' => r' = r ∧ i_Rel (k + 4) u v) v) u := by
  obtain ⟨p, m, w, t, f, g, h, h2, h7, hm, rfl, rfl, he⟩ := I
  have R := fr_R (k := k + 4) (w := w) (h := h) h2 h7 hm he
  by_cases n : ∃ k, k < m ∧ ¬ 0 ≤ h k
  · refine tx_pm1 hm n ?_
    refine ty_pm1 hm n ?_
    exact ⟨rfl, R⟩
  · have ha : ∀ e, e < m → 0 ≤ h e := fun e z => Classical.byContradiction (fun y => n ⟨e, z, y⟩)
    rcases Nat.eq_zero_or_pos m with m0 | m0
    · subst m0
      refine tx_pm3 h7 hm ha (fun e z => absurd z (by omega)) ?_
      refine ty_pm0 ?_
      exact ⟨(tj_post_0 _ _).symm, R⟩
    · obtain ⟨e7, tst⟩ := tj_joined m0 (by omega) h7 he
      rw [e7] at tst
      by_cases n2 : ∃ k, k < m ∧ (t k &&& tj_it t m (t 0) p) = 0
      · have n3 := n2
        obtain ⟨c, c1, c2⟩ := n3
        rw [e7] at c2
        refine tx_pm2 h7 hm ha n2 ?_
        refine ty_pm2 m0 hm he ha ⟨c, c1, (tst c c1).mp c2⟩ ?_
        exact ⟨rfl, R⟩
      · refine tx_pm3 h7 hm ha (fun e z y => n2 ⟨e, z, y⟩) ?_
        rw [e7] at n2
        refine ty_pm3 m0 hm he ha (fun e z y => n2 ⟨e, z, (tst e z).mpr y⟩) ?_
        exact ⟨rfl, R⟩
theorem i_vc_oddPlaces {k : Nat} {u : SX} {v : SY} (I : i_Rel k u v) (hk : k + 4 ≤ 2049) : wpX_oddPlaces (fun r => wpY_oddPlaces (fun r' => r' = r ∧ i_Rel (k + 4) u v) v) u := by
  obtain ⟨p, m, w, t, f, g, h, h2, h7, hm, rfl, rfl, he⟩ := I
  have R := fr_R (k := k + 4) (w := w) (h := h) h2 h7 hm he
  refine tx_oddPl hm ?_
  refine ty_oddPl hm ?_
  exact ⟨rfl, R⟩
