theorem tj_10 : ¬ (1 : Int32) = 0 := by decide
theorem tx_odd_l {post : Int32 → Prop} {p m : Nat} {w s : Int32} {t o h : Nat → Int32} (hm : m ≤ 12) (hp : post (tj_X o m s)) : ∀ d e, e + d = m → wX_oddEnds_4 post s (nI p) (nI m) w t o h (d + 1) (tj_x o s e) (nI e) := by
  intro d
  induction d with
  | zero =>
    intro e he
    obtain rfl : e = m := by omega
    exact br_t (nI_le (Nat.le_refl _) (by omega)) hp
  | succ d ih =>
    intro e he
    have c : ¬ nI m ≤ nI e := nI_ge (by omega) (by omega)
    have hi : vp_in (nI e) 12 := vp_in_nI (by omega) (by omega)
    have hc : (nI e).toNatClampNeg = e := nI_clamp (by omega)
    have q := ih (e + 1) (by omega)
    refine br_f c (br_c (fun hb => ⟨hi, nm_r (e' := tj_x o s (e + 1)) ?_ (nm_r (nI_1 e) q)⟩) (fun hb => nm_r (nI_1 e) ?_))
    · rw [hc]
      exact tj_x_t hb
    · rw [← tj_x_f hb] at q
      exact q
theorem tx_odd {post : Int32 → Prop} {p m : Nat} {w s : Int32} {t o h : Nat → Int32} (hm : m ≤ 12) (hp : post (tj_X o m s)) : wpX_oddEnds post (nI p, nI m, w, t, o, h) s := ⟨m + 1, tx_odd_l hm hp m 0 (by omega)⟩
theorem tx_sum_l {post : Int32 → Prop} {p m : Nat} {w s : Int32} {t o h : Nat → Int32} (hm : m ≤ 12) (hp : post (tj_S h m s)) : ∀ d e, e + d = m → wX_weightOf_4 post s (nI p) (nI m) w t o h (d + 1) (tj_s h s e) (nI e) := by
  intro d
  induction d with
  | zero =>
    intro e he
    obtain rfl : e = m := by omega
    exact br_t (nI_le (Nat.le_refl _) (by omega)) hp
  | succ d ih =>
    intro e he
    have c : ¬ nI m ≤ nI e := nI_ge (by omega) (by omega)
    have hi : vp_in (nI e) 12 := vp_in_nI (by omega) (by omega)
    have hc : (nI e).toNatClampNeg = e := nI_clamp (by omega)
    have q := ih (e + 1) (by omega)
    refine br_f c (br_c (fun hb => ⟨hi, nm_r (e' := tj_s h s (e + 1)) ?_ (nm_r (nI_1 e) q)⟩) (fun hb => nm_r (nI_1 e) ?_))
    · rw [hc]
      exact tj_s_t hb
    · rw [← tj_s_f hb] at q
      exact q
theorem tx_sum {post : Int32 → Prop} {p m : Nat} {w s : Int32} {t o h : Nat → Int32} (hm : m ≤ 12) (hp : post (tj_S h m s)) : wpX_weightOf post (nI p, nI m, w, t, o, h) s := ⟨m + 1, tx_sum_l hm hp m 0 (by omega)⟩
theorem tx_all {post : Int32 → Prop} {p m : Nat} {w : Int32} {t o h : Nat → Int32} (hm : m ≤ 12) (hp : post (nI (2 ^ m - 1))) : wpX_allRoads post (nI p, nI m, w, t, o, h) := by
  have e := (tj_pow m (by omega)).2.2.2
  show post ((1 : Int32) <<< (nI m &&& 31) - 1)
  rw [e]
  exact hp
theorem tx_skip {post : Int32 → Prop} {J : Int32 → Int32 → Int32 → Prop} {P M N A a b : Int32} {s p m : Nat} {w : Int32} {t o h : Nat → Int32} (hJ : J a b (nI (s + 1))) : wX_bestJoin_41 post J P M N A a b (nI s) (nI p) (nI m) w t o h := by
  unfold wX_bestJoin_41 wX_bestJoin_42
  exact br_t rfl (nm_r (nI_1 s) hJ)
theorem tx_take {post : Int32 → Prop} {J : Int32 → Int32 → Int32 → Prop} {P M N A : Int32} {s p m : Nat} {w : Int32} {t o h : Nat → Int32} (hm : m ≤ 12) (h1 : (nI s &&& M) = M) (h2 : (nI s &&& N) = 0)
    (hJ : J (tj_bst (tj_X o m) (tj_S h m) P M N (s + 1)).1 (tj_bst (tj_X o m) (tj_S h m) P M N (s + 1)).2 (nI (s + 1))) :
    wX_bestJoin_42 post J P M N A (tj_bst (tj_X o m) (tj_S h m) P M N s).1 (tj_bst (tj_X o m) (tj_S h m) P M N s).2 (nI s) 1 (nI p) (nI m) w t o h := by
  unfold wX_bestJoin_42
  refine br_f (by decide) (tx_odd hm (br_c (fun h3 => tx_sum hm (br_c (fun h4 => nm_r (nI_1 s) ?_) (fun h4 => br_c (fun h5 => nm_r (nI_1 s) ?_) (fun h5 => nm_r (nI_1 s) ?_)))) (fun h3 => nm_r (nI_1 s) ?_)))
  · rw [tj_bst_t ⟨h1, h2, h3⟩ (Or.inl h4)] at hJ
    exact hJ
  · rw [tj_bst_k ⟨h1, h2, h3⟩ (fun z => z.elim h4 (fun z => (Int32.not_lt.mpr h5) z))] at hJ
    exact hJ
  · rw [tj_bst_t ⟨h1, h2, h3⟩ (Or.inr (Int32.not_le.mp h5))] at hJ
    exact hJ
  · rw [tj_bst_n (fun z => h3 z.2.2)] at hJ
    exact hJ
theorem tx_best_l {post : Int32 → Prop} {p m n : Nat} {w P M N : Int32} {t o h : Nat → Int32} (hm : m ≤ 12) (hn0 : 0 < n) (hn : n ≤ 4096) (hp : post (tj_bst (tj_X o m) (tj_S h m) P M N n).1) : ∀ d s, s + d = n → wX_bestJoin_15 post P M N (nI (n - 1)) (nI p) (nI m) w t o h (d + 1) (tj_bst (tj_X o m) (tj_S h m) P M N s).1 (tj_bst (tj_X o m) (tj_S h m) P M N s).2 (nI s) := by
  intro d
  induction d with
  | zero =>
    intro s hs
    obtain rfl : s = n := by omega
    exact br_t (nI_lt (by omega) (by omega)) hp
  | succ d ih =>
    intro s hs
    have c : ¬ nI (n - 1) < nI s := nI_nlt (by omega) (by omega)
    have q := ih (s + 1) (by omega)
    refine br_f c (br_c (fun h1 => br_c (fun h2 => tx_take hm h1 h2 q) (fun h2 => tx_skip ?_)) (fun h1 => tx_skip ?_))
    · rw [tj_bst_n (fun z => h2 z.2.1)] at q
      exact q
    · rw [tj_bst_n (fun z => h1 z.1)] at q
      exact q
theorem tx_best {post : Int32 → Prop} {p m : Nat} {w P M N : Int32} {t o h : Nat → Int32} (hm : m ≤ 12) (hp : post (tj_bst (tj_X o m) (tj_S h m) P M N (2 ^ m)).1) : wpX_bestJoin post (nI p, nI m, w, t, o, h) P M N := by
  have k := tj_pow m (by omega)
  unfold wpX_bestJoin
  dsimp only
  refine tx_all hm ⟨2 ^ m + 1, tx_best_l hm k.2.2.1 k.2.1 hp (2 ^ m) 0 (by omega)⟩
theorem tx_bw {post : Int32 → Prop} {p m : Nat} {w P M N : Int32} {t o h : Nat → Int32} (hm : m ≤ 12) (hp : post (tj_w (tj_S h m) (tj_bst (tj_X o m) (tj_S h m) P M N (2 ^ m)).1)) : wpX_bestWeight post (nI p, nI m, w, t, o, h) P M N := by
  unfold wpX_bestWeight
  dsimp only
  refine tx_best hm (br_c (fun e => ?_) (fun e => tx_sum hm ?_))
  · rw [tj_w_t e] at hp
    exact hp
  · rw [tj_w_f e] at hp
    exact hp
theorem tx_joins_l {post : Int32 → Prop} {p m n : Nat} {w : Int32} {t o h : Nat → Int32} (hm : m ≤ 12) (hn0 : 0 < n) (hn : n ≤ 4096) (hp : post (tj_cnt (tj_X o m) w n)) : ∀ d s, s + d = n → wX_joins_9 post (nI (n - 1)) (nI p) (nI m) w t o h (d + 1) (tj_cnt (tj_X o m) w s) (nI s) := by
  intro d
  induction d with
  | zero =>
    intro s hs
    obtain rfl : s = n := by omega
    exact br_t (nI_lt (by omega) (by omega)) hp
  | succ d ih =>
    intro s hs
    have c : ¬ nI (n - 1) < nI s := nI_nlt (by omega) (by omega)
    have q := ih (s + 1) (by omega)
    refine br_f c (tx_odd hm (br_c (fun h1 => nm_r (tj_cnt_t h1) (nm_r (nI_1 s) q)) (fun h1 => nm_r (nI_1 s) ?_)))
    rw [← tj_cnt_f h1] at q
    exact q
theorem tx_joins {post : Int32 → Prop} {p m : Nat} {w : Int32} {t o h : Nat → Int32} (hm : m ≤ 12) (hp : post (tj_cnt (tj_X o m) w (2 ^ m))) : wpX_joins post (nI p, nI m, w, t, o, h) := by
  have k := tj_pow m (by omega)
  unfold wpX_joins
  dsimp only
  exact tx_all hm ⟨2 ^ m + 1, tx_joins_l hm k.2.2.1 k.2.1 hp (2 ^ m) 0 (by omega)⟩
theorem tx_oddPl {post : Int32 → Prop} {p m : Nat} {w : Int32} {t o h : Nat → Int32} (hm : m ≤ 12) (hp : post (tj_X o m (nI (2 ^ m - 1)))) : wpX_oddPlaces post (nI p, nI m, w, t, o, h) := by
  unfold wpX_oddPlaces
  dsimp only
  exact tx_all hm (tx_odd hm hp)
theorem tx_neg1 {post : Int32 → Prop} {p m : Nat} {w : Int32} {t o h : Nat → Int32} (hm : m ≤ 12) (hp : post 1) : ∀ d e, e + d = m → (∃ k, e ≤ k ∧ k < m ∧ ¬ 0 ≤ h k) → wX_hasNegativeWeight_2 post (nI p) (nI m) w t o h (d + 1) (nI e) := by
  intro d
  induction d with
  | zero =>
    intro e he hk
    obtain ⟨k, k1, k2, _⟩ := hk
    omega
  | succ d ih =>
    intro e he hk
    have c : ¬ nI m ≤ nI e := nI_ge (by omega) (by omega)
    have hi : vp_in (nI e) 12 := vp_in_nI (by omega) (by omega)
    have hc : (nI e).toNatClampNeg = e := nI_clamp (by omega)
    refine br_f c ⟨hi, br_c (fun h1 => nm_r (nI_1 e) (ih (e + 1) (by omega) ?_)) (fun _ => hp)⟩
    rw [hc] at h1
    obtain ⟨k, k1, k2, k3⟩ := hk
    have ne : ¬ k = e := fun z => k3 (z ▸ h1)
    exact ⟨k, by omega, k2, k3⟩
theorem tx_neg0 {post : Int32 → Prop} {p m : Nat} {w : Int32} {t o h : Nat → Int32} (hm : m ≤ 12) (ha : ∀ e, e < m → 0 ≤ h e) (hp : post 0) : ∀ d e, e + d = m → wX_hasNegativeWeight_2 post (nI p) (nI m) w t o h (d + 1) (nI e) := by
  intro d
  induction d with
  | zero =>
    intro e he
    obtain rfl : e = m := by omega
    exact br_t (nI_le (Nat.le_refl _) (by omega)) hp
  | succ d ih =>
    intro e he
    have c : ¬ nI m ≤ nI e := nI_ge (by omega) (by omega)
    have hi : vp_in (nI e) 12 := vp_in_nI (by omega) (by omega)
    have hc : (nI e).toNatClampNeg = e := nI_clamp (by omega)
    refine br_f c ⟨hi, br_t ?_ (nm_r (nI_1 e) (ih (e + 1) (by omega)))⟩
    rw [hc]
    exact ha e (by omega)
theorem tx_rnd {post : Int32 → Prop} {J : Int32 → Int32 → Prop} {p m k : Nat} {w r : Int32} {t o h : Nat → Int32} (hm : m ≤ 12) (hJ : J (tj_rnd t r m) (nI (k + 1))) : ∀ d e, e + d = m → wX_reachedFromFirstRoad_19 post J (nI k) (nI p) (nI m) w t o h (d + 1) (tj_rnd t r e) (nI e) := by
  intro d
  induction d with
  | zero =>
    intro e he
    obtain rfl : e = m := by omega
    exact br_t (nI_le (Nat.le_refl _) (by omega)) (nm_r (nI_1 k) hJ)
  | succ d ih =>
    intro e he
    have c : ¬ nI m ≤ nI e := nI_ge (by omega) (by omega)
    have hi : vp_in (nI e) 12 := vp_in_nI (by omega) (by omega)
    have hc : (nI e).toNatClampNeg = e := nI_clamp (by omega)
    have q := ih (e + 1) (by omega)
    refine br_f c ⟨hi, br_c (fun h1 => nm_r (nI_1 e) ?_) (fun h1 => ⟨hi, nm_r (e' := tj_rnd t r (e + 1)) ?_ (nm_r (nI_1 e) q)⟩)⟩
    · rw [hc] at h1
      rw [tj_rnd1, if_pos h1] at q
      exact q
    · rw [hc] at h1 ⊢
      rw [tj_rnd1, if_neg h1]
theorem tx_rnds {post : Int32 → Prop} {p m : Nat} {w r : Int32} {t o h : Nat → Int32} (hp7 : p ≤ 7) (hm : m ≤ 12) (hp : post (tj_it t m r p)) : ∀ d j, j + d = p → wX_reachedFromFirstRoad_9 post (nI p) (nI m) w t o h (d + 1) (tj_it t m r j) (nI j) := by
  intro d
  induction d with
  | zero =>
    intro j hj
    obtain rfl : j = p := by omega
    exact br_t (nI_le (Nat.le_refl _) (by omega)) hp
  | succ d ih =>
    intro j hj
    have c : ¬ nI p ≤ nI j := nI_ge (by omega) (by omega)
    exact br_f c ⟨m + 1, tx_rnd (r := tj_it t m r j) hm (ih (j + 1) (by omega)) m 0 (by omega)⟩
theorem tx_reach {post : Int32 → Prop} {p m : Nat} {w : Int32} {t o h : Nat → Int32} (hp7 : p ≤ 7) (hm : m ≤ 12) (hp : post (tj_it t m (t 0) p)) : wpX_reachedFromFirstRoad post (nI p, nI m, w, t, o, h) := nm_e ⟨p + 1, tx_rnds hp7 hm hp p 0 (by omega)⟩
theorem tx_aj0 {post : Int32 → Prop} {p m : Nat} {w R : Int32} {t o h : Nat → Int32} (hm : m ≤ 12) (hp : post 0) : ∀ d e, e + d = m → (∃ k, e ≤ k ∧ k < m ∧ (t k &&& R) = 0) → wX_allJoined_7 post R (nI p) (nI m) w t o h (d + 1) (nI e) := by
  intro d
  induction d with
  | zero =>
    intro e he hk
    obtain ⟨k, k1, k2, _⟩ := hk
    omega
  | succ d ih =>
    intro e he hk
    have c : ¬ nI m ≤ nI e := nI_ge (by omega) (by omega)
    have hi : vp_in (nI e) 12 := vp_in_nI (by omega) (by omega)
    have hc : (nI e).toNatClampNeg = e := nI_clamp (by omega)
    refine br_f c ⟨hi, br_c (fun _ => hp) (fun h1 => nm_r (nI_1 e) (ih (e + 1) (by omega) ?_))⟩
    rw [hc] at h1
    obtain ⟨k, k1, k2, k3⟩ := hk
    have ne : ¬ k = e := fun z => h1 (z ▸ k3)
    exact ⟨k, by omega, k2, k3⟩
theorem tx_aj1 {post : Int32 → Prop} {p m : Nat} {w R : Int32} {t o h : Nat → Int32} (hm : m ≤ 12) (ha : ∀ e, e < m → ¬ (t e &&& R) = 0) (hp : post 1) : ∀ d e, e + d = m → wX_allJoined_7 post R (nI p) (nI m) w t o h (d + 1) (nI e) := by
  intro d
  induction d with
  | zero =>
    intro e he
    obtain rfl : e = m := by omega
    exact br_t (nI_le (Nat.le_refl _) (by omega)) hp
  | succ d ih =>
    intro e he
    have c : ¬ nI m ≤ nI e := nI_ge (by omega) (by omega)
    have hi : vp_in (nI e) 12 := vp_in_nI (by omega) (by omega)
    have hc : (nI e).toNatClampNeg = e := nI_clamp (by omega)
    refine br_f c ⟨hi, br_f ?_ (nm_r (nI_1 e) (ih (e + 1) (by omega)))⟩
    rw [hc]
    exact ha e (by omega)
theorem tx_pm1 {post : Int32 → Prop} {p m : Nat} {w : Int32} {t o h : Nat → Int32} (hm : m ≤ 12) (hn : ∃ k, k < m ∧ ¬ 0 ≤ h k) (hp : post (-1)) : wpX_postman post (nI p, nI m, w, t, o, h) := by
  obtain ⟨k, k1, k2⟩ := hn
  unfold wpX_postman wpX_hasNegativeWeight
  dsimp only
  exact ⟨m + 1, tx_neg1 hm (br_f tj_10 hp) m 0 (by omega) ⟨k, by omega, k1, k2⟩⟩
theorem tx_pm2 {post : Int32 → Prop} {p m : Nat} {w : Int32} {t o h : Nat → Int32} (hp7 : p ≤ 7) (hm : m ≤ 12) (ha : ∀ e, e < m → 0 ≤ h e) (hn : ∃ k, k < m ∧ (t k &&& tj_it t m (t 0) p) = 0) (hp : post (-2)) : wpX_postman post (nI p, nI m, w, t, o, h) := by
  obtain ⟨k, k1, k2⟩ := hn
  unfold wpX_postman wpX_hasNegativeWeight wpX_allJoined
  dsimp only
  exact ⟨m + 1, tx_neg0 hm ha (br_t rfl (tx_reach hp7 hm ⟨m + 1, tx_aj0 hm (br_t rfl hp) m 0 (by omega) ⟨k, by omega, k1, k2⟩⟩)) m 0 (by omega)⟩
theorem tx_pmA {post : Int32 → Prop} {p m : Nat} {w : Int32} {t o h : Nat → Int32} (hm : m ≤ 12) (hp : post (tj_post o h m)) : wpX_oddPlaces (fun r => wpX_bestWeight (fun r2 => post r2) (nI p, nI m, w, t, o, h) r 0 0) (nI p, nI m, w, t, o, h) := by
  refine tx_oddPl hm ?_
  refine tx_bw hm ?_
  exact hp
theorem tx_pm3 {post : Int32 → Prop} {p m : Nat} {w : Int32} {t o h : Nat → Int32} (hp7 : p ≤ 7) (hm : m ≤ 12) (ha : ∀ e, e < m → 0 ≤ h e) (hj : ∀ e, e < m → ¬ (t e &&& tj_it t m (t 0) p) = 0) (hp : post (tj_post o h m)) : wpX_postman post (nI p, nI m, w, t, o, h) := by
  unfold wpX_postman wpX_hasNegativeWeight wpX_allJoined
  dsimp only
  exact ⟨m + 1, tx_neg0 hm ha (br_t rfl (tx_reach hp7 hm ⟨m + 1, tx_aj1 hm hj (br_f tj_10 (tx_pmA hm hp)) m 0 (by omega)⟩)) m 0 (by omega)⟩
theorem tx_rem {post : Int32 → SX → Prop} {p m r : Nat} {w : Int32} {t o h : Nat → Int32} (hm : m + 1 ≤ 12) (hp : post (nI m) (nI p, nI m, w, tj_shf t r m, tj_shf o r m, tj_shf h r m)) : ∀ d e, e + d = m → r ≤ e → wX_remove_12 post (nI p) (nI (m + 1)) w (d + 1) (nI e) (tj_shf t r e) (tj_shf o r e) (tj_shf h r e) := by
  intro d
  induction d with
  | zero =>
    intro e he hr
    obtain rfl : e = m := by omega
    have c : nI (e + 1) ≤ nI e + 1 := by
      rw [nI_1]
      exact nI_le (Nat.le_refl _) (by omega)
    exact br_t c (nm_r (nI_pred e) hp)
  | succ d ih =>
    intro e he hr
    have c : ¬ nI (m + 1) ≤ nI e + 1 := by
      rw [nI_1]
      exact nI_ge (by omega) (by omega)
    have hi : vp_in (nI e) 12 := vp_in_nI (by omega) (by omega)
    have hi1 : vp_in (nI e + 1) 12 := by
      rw [nI_1]
      exact vp_in_nI (by omega) (by omega)
    have hc : (nI e).toNatClampNeg = e := nI_clamp (by omega)
    have hc1 : (nI e + 1).toNatClampNeg = e + 1 := by
      rw [nI_1]
      exact nI_clamp (by omega)
    have st : ∀ a : Nat → Int32, upd (tj_shf a r e) (nI e).toNatClampNeg (tj_shf a r e (nI e + 1).toNatClampNeg) = tj_shf a r (e + 1) := by
      intro a
      rw [hc, hc1]
      exact tj_shf_s a hr
    exact br_f c ⟨hi1, hi, nm_r (st t) ⟨hi1, hi, nm_r (st o) ⟨hi1, hi, nm_r (st h) (nm_r (nI_1 e) (ih (e + 1) (by omega) (by omega)))⟩⟩⟩
theorem tx_pl1 {post : Int32 → Prop} {p i : Nat} {n w : Int32} {t o h : Nat → Int32} (hp7 : p ≤ 7) (hi : i < p) (hp : post 1) : wpX_isPlace post (nI p, n, w, t, o, h) (nI i) := br_f (nI_pos (by omega)) (br_f (nI_ge hi (by omega)) hp)
theorem tx_pl0 {post : Int32 → Prop} {p : Nat} {n w x : Int32} {t o h : Nat → Int32} (hx : x < 0 ∨ nI p ≤ x) (hp : post 0) : wpX_isPlace post (nI p, n, w, t, o, h) x := br_c (fun _ => hp) (fun h1 => br_t (hx.resolve_left h1) hp)
theorem tx_rd1 {post : Int32 → Prop} {m i : Nat} {n w : Int32} {t o h : Nat → Int32} (hm : m ≤ 12) (hi : i < m) (hp : post 1) : wpX_isRoad post (n, nI m, w, t, o, h) (nI i) := br_f (nI_pos (by omega)) (br_f (nI_ge hi (by omega)) hp)
theorem tx_rd0 {post : Int32 → Prop} {m : Nat} {n w x : Int32} {t o h : Nat → Int32} (hx : x < 0 ∨ nI m ≤ x) (hp : post 0) : wpX_isRoad post (n, nI m, w, t, o, h) x := br_c (fun _ => hp) (fun h1 => br_t (hx.resolve_left h1) hp)
theorem tx_wt1 {post : Int32 → Prop} {x : Int32} (h1 : ¬ x < -9) (h2 : ¬ 20 < x) (hp : post 1) : wpX_isWeight post x := br_f h1 (br_f h2 hp)
theorem tx_wt0 {post : Int32 → Prop} {x : Int32} (hx : x < -9 ∨ 20 < x) (hp : post 0) : wpX_isWeight post x := br_c (fun _ => hp) (fun h1 => br_t (hx.resolve_left h1) hp)
theorem tx_rem0 {post : Int32 → SX → Prop} {p m r : Nat} {w : Int32} {t o h : Nat → Int32} (hm : m + 1 ≤ 12) (hr : r ≤ m) (hp : post (nI m) (nI p, nI m, w, tj_shf t r m, tj_shf o r m, tj_shf h r m)) : ∃ n, wX_remove_12 post (nI p) (nI (m + 1)) w n (nI r) t o h := by
  have z := tx_rem hm hp (m - r) r (by omega) (Nat.le_refl r)
  rw [tj_shf_0, tj_shf_0, tj_shf_0] at z
  exact ⟨_, z⟩
