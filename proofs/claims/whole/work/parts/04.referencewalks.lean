theorem ty_odd_l {post : Int32 → Prop} {p m : Nat} {w s : Int32} {f g h : Nat → Int32} (hm : m ≤ 12) (hp : post (tj_X (tj_od f g) m s)) : ∀ d e, e + d = m → wY_odd_4 post s (nI p) (nI m) w f g h (d + 1) (tj_x (tj_od f g) s e) (nI e) := by
  intro d
  induction d with
  | zero =>
    intro e he
    obtain rfl : e = m := by omega
    exact br_t (nI_le (Nat.le_refl _) (by omega)) hp
  | succ d ih =>
    intro e he
    have c : ¬ nI m ≤ nI e := nI_ge (by omega) (by omega)
    have c12 : ¬ (12 : Int32) ≤ nI e := nI_ge (b := 12) (by omega) (by decide)
    have hi : vp_in (nI e) 12 := vp_in_nI (by omega) (by omega)
    have hc : (nI e).toNatClampNeg = e := nI_clamp (by omega)
    have q := ih (e + 1) (by omega)
    refine br_f c (br_f c12 (br_c (fun hb => ⟨hi, hi, nm_r (e' := tj_x (tj_od f g) s (e + 1)) ?_ (nm_r (nI_1 e) q)⟩) (fun hb => nm_r (nI_1 e) ?_)))
    · rw [hc, Int32.xor_assoc]
      exact tj_x_t hb
    · rw [← tj_x_f hb] at q
      exact q
theorem ty_odd {post : Int32 → Prop} {p m : Nat} {w s : Int32} {f g h : Nat → Int32} (hm : m ≤ 12) (hp : post (tj_X (tj_od f g) m s)) : wpY_odd post (nI p, nI m, w, f, g, h) s := ⟨m + 1, ty_odd_l hm hp m 0 (by omega)⟩
theorem ty_sum_l {post : Int32 → Prop} {p m : Nat} {w s : Int32} {f g h : Nat → Int32} (hm : m ≤ 12) (hp : post (tj_S h m s)) : ∀ d e, e + d = m → wY_sum_4 post s (nI p) (nI m) w f g h (d + 1) (tj_s h s e) (nI e) := by
  intro d
  induction d with
  | zero =>
    intro e he
    obtain rfl : e = m := by omega
    exact br_t (nI_le (Nat.le_refl _) (by omega)) hp
  | succ d ih =>
    intro e he
    have c : ¬ nI m ≤ nI e := nI_ge (by omega) (by omega)
    have c12 : ¬ (12 : Int32) ≤ nI e := nI_ge (b := 12) (by omega) (by decide)
    have hi : vp_in (nI e) 12 := vp_in_nI (by omega) (by omega)
    have hc : (nI e).toNatClampNeg = e := nI_clamp (by omega)
    have q := ih (e + 1) (by omega)
    refine br_f c (br_f c12 (br_c (fun hb => ⟨hi, nm_r (e' := tj_s h s (e + 1)) ?_ (nm_r (nI_1 e) q)⟩) (fun hb => nm_r (nI_1 e) ?_)))
    · rw [hc]
      exact tj_s_t hb
    · rw [← tj_s_f hb] at q
      exact q
theorem ty_sum {post : Int32 → Prop} {p m : Nat} {w s : Int32} {f g h : Nat → Int32} (hm : m ≤ 12) (hp : post (tj_S h m s)) : wpY_sum post (nI p, nI m, w, f, g, h) s := ⟨m + 1, ty_sum_l hm hp m 0 (by omega)⟩
theorem ty_best_l {post : Int32 → Prop} {p m : Nat} {w P M N : Int32} {f g h : Nat → Int32} (hm : m ≤ 12) (hp : post (tj_bst (tj_X (tj_od f g) m) (tj_S h m) P M N (2 ^ m)).1) : ∀ d s, s + d = 2 ^ m → wY_search_9 post P M N (nI p) (nI m) w f g h (d + 1) (tj_bst (tj_X (tj_od f g) m) (tj_S h m) P M N s).1 (tj_bst (tj_X (tj_od f g) m) (tj_S h m) P M N s).2 (nI s) := by
  have k := tj_pow m (by omega)
  have k1 := k.1
  have k2 := k.2.1
  intro d
  induction d with
  | zero =>
    intro s hs
    have e : s = 2 ^ m := by omega
    have c : (1 : Int32) <<< (nI m &&& 31) ≤ nI s := by
      rw [k1, e]
      exact nI_le (Nat.le_refl _) (by omega)
    rw [e] at c ⊢
    exact br_t c hp
  | succ d ih =>
    intro s hs
    have c : ¬ (1 : Int32) <<< (nI m &&& 31) ≤ nI s := by
      rw [k1]
      exact nI_ge (by omega) (by omega)
    have q := ih (s + 1) (by omega)
    have ng := tj_bst_neg (tj_X (tj_od f g) m) (tj_S h m) P M N (n := s) (by omega)
    refine br_f c (br_c (fun h1 => br_c (fun h2 => ty_odd hm (br_c (fun h3 => ty_sum hm (br_c (fun h4 => nm_r (nI_1 s) ?_) (fun h4 => br_c (fun h5 => nm_r (nI_1 s) ?_) (fun h5 => nm_r (nI_1 s) ?_)))) (fun h3 => nm_r (nI_1 s) ?_))) (fun h2 => nm_r (nI_1 s) ?_)) (fun h1 => nm_r (nI_1 s) ?_))
    · rw [tj_bst_t ⟨h1, h2, h3⟩ (Or.inl (ng.mp h4))] at q
      exact q
    · rw [tj_bst_k ⟨h1, h2, h3⟩ (fun z => z.elim (fun z => h4 (ng.mpr z)) (fun z => (Int32.not_lt.mpr h5) z))] at q
      exact q
    · rw [tj_bst_t ⟨h1, h2, h3⟩ (Or.inr (Int32.not_le.mp h5))] at q
      exact q
    · rw [tj_bst_n (fun z => h3 z.2.2)] at q
      exact q
    · rw [tj_bst_n (fun z => h2 z.2.1)] at q
      exact q
    · rw [tj_bst_n (fun z => h1 z.1)] at q
      exact q
theorem ty_best {post : Int32 → Prop} {p m : Nat} {w P M N : Int32} {f g h : Nat → Int32} (hm : m ≤ 12) (hp : post (tj_bst (tj_X (tj_od f g) m) (tj_S h m) P M N (2 ^ m)).1) : wpY_search post (nI p, nI m, w, f, g, h) P M N := ⟨2 ^ m + 1, ty_best_l hm hp (2 ^ m) 0 (by omega)⟩
theorem ty_w {post : Int32 → Prop} {p m : Nat} {w P M N : Int32} {f g h : Nat → Int32} (hm : m ≤ 12) (hp : post (tj_w (tj_S h m) (tj_bst (tj_X (tj_od f g) m) (tj_S h m) P M N (2 ^ m)).1)) : wpY_weightOf post (nI p, nI m, w, f, g, h) (tj_bst (tj_X (tj_od f g) m) (tj_S h m) P M N (2 ^ m)).1 := by
  have k := tj_pow m (by omega)
  have ng := tj_bst_neg (tj_X (tj_od f g) m) (tj_S h m) P M N (n := 2 ^ m) k.2.1
  unfold wpY_weightOf
  dsimp only
  by_cases e : (tj_bst (tj_X (tj_od f g) m) (tj_S h m) P M N (2 ^ m)).1 = -1
  · rw [tj_w_t e] at hp
    exact br_f (Int32.not_le.mpr (ng.mpr e)) hp
  · rw [tj_w_f e] at hp
    exact br_t (Int32.not_lt.mp (fun z => e (ng.mp z))) (ty_sum hm hp)
theorem ty_bw {post : Int32 → Prop} {p m : Nat} {w P M N : Int32} {f g h : Nat → Int32} (hm : m ≤ 12) (hp : post (tj_w (tj_S h m) (tj_bst (tj_X (tj_od f g) m) (tj_S h m) P M N (2 ^ m)).1)) : wpY_search (fun r => wpY_weightOf (fun r2 => post r2) (nI p, nI m, w, f, g, h) r) (nI p, nI m, w, f, g, h) P M N := ty_best hm (ty_w hm hp)
theorem ty_joins_l {post : Int32 → Prop} {p m : Nat} {w : Int32} {f g h : Nat → Int32} (hm : m ≤ 12) (hp : post (tj_cnt (tj_X (tj_od f g) m) w (2 ^ m))) : ∀ d s, s + d = 2 ^ m → wY_joins_4 post (nI p) (nI m) w f g h (d + 1) (tj_cnt (tj_X (tj_od f g) m) w s) (nI s) := by
  have k := tj_pow m (by omega)
  have k1 := k.1
  have k2 := k.2.1
  intro d
  induction d with
  | zero =>
    intro s hs
    have e : s = 2 ^ m := by omega
    have c : (1 : Int32) <<< (nI m &&& 31) ≤ nI s := by
      rw [k1, e]
      exact nI_le (Nat.le_refl _) (by omega)
    rw [e] at c ⊢
    exact br_t c hp
  | succ d ih =>
    intro s hs
    have c : ¬ (1 : Int32) <<< (nI m &&& 31) ≤ nI s := by
      rw [k1]
      exact nI_ge (by omega) (by omega)
    have q := ih (s + 1) (by omega)
    refine br_f c (ty_odd hm (br_c (fun h1 => nm_r (tj_cnt_t h1) (nm_r (nI_1 s) q)) (fun h1 => nm_r (nI_1 s) ?_)))
    rw [← tj_cnt_f h1] at q
    exact q
theorem ty_joins {post : Int32 → Prop} {p m : Nat} {w : Int32} {f g h : Nat → Int32} (hm : m ≤ 12) (hp : post (tj_cnt (tj_X (tj_od f g) m) w (2 ^ m))) : wpY_joins post (nI p, nI m, w, f, g, h) := ⟨2 ^ m + 1, ty_joins_l hm hp (2 ^ m) 0 (by omega)⟩
theorem ty_oddA {post : Int32 → Prop} {p m : Nat} {w : Int32} {f g h : Nat → Int32} (hm : m ≤ 12) (hp : post (tj_X (tj_od f g) m (nI (2 ^ m - 1)))) : wpY_odd post (nI p, nI m, w, f, g, h) ((1 : Int32) <<< (nI m &&& 31) - 1) := by
  rw [(tj_pow m (by omega)).2.2.2]
  exact ty_odd hm hp
theorem ty_oddPl {post : Int32 → Prop} {p m : Nat} {w : Int32} {f g h : Nat → Int32} (hm : m ≤ 12) (hp : post (tj_X (tj_od f g) m (nI (2 ^ m - 1)))) : wpY_oddPlaces post (nI p, nI m, w, f, g, h) := by
  unfold wpY_oddPlaces
  dsimp only
  exact ty_oddA hm hp
theorem ty_rnd {post : Int32 → Prop} {J : Int32 → Int32 → Prop} {p m k : Nat} {w r : Int32} {t f g h : Nat → Int32} (hm : m ≤ 12) (he : tj_ends p m t f g) (hJ : J (tj_rnd t r m) (nI (k + 1))) : ∀ d e, e + d = m → wY_whole_19 post J (nI k) (nI p) (nI m) w f g h (d + 1) (tj_rnd t r e) (nI e) := by
  intro d
  induction d with
  | zero =>
    intro e he
    obtain rfl : e = m := by omega
    exact br_t (nI_le (Nat.le_refl _) (by omega)) (nm_r (nI_1 k) hJ)
  | succ d ih =>
    intro e hed
    have c : ¬ nI m ≤ nI e := nI_ge (by omega) (by omega)
    have c12 : ¬ (12 : Int32) ≤ nI e := nI_ge (b := 12) (by omega) (by decide)
    have hi : vp_in (nI e) 12 := vp_in_nI (by omega) (by omega)
    have hc : (nI e).toNatClampNeg = e := nI_clamp (by omega)
    have q := ih (e + 1) (by omega)
    obtain ⟨i, j, hi1, hj1, ef, eg, et⟩ := he e (by omega)
    have es : ((1 : Int32) <<< (f (nI e).toNatClampNeg &&& 31)) ||| ((1 : Int32) <<< (g (nI e).toNatClampNeg &&& 31)) = t e := by
      rw [hc, ef, eg, et]
    refine br_f c (br_f c12 ⟨hi, hi, nm_r es (br_c (fun h1 => nm_r (nI_1 e) ?_) (fun h1 => nm_r (e' := tj_rnd t r (e + 1)) ?_ (nm_r (nI_1 e) q)))⟩)
    · rw [Int32.and_comm] at h1
      rw [tj_rnd1, if_pos h1] at q
      exact q
    · rw [Int32.and_comm] at h1
      rw [tj_rnd1, if_neg h1]
theorem ty_wh0 {post : Int32 → Prop} {p m : Nat} {w R : Int32} {f g h : Nat → Int32} (hm : m ≤ 12) (hp : post 0) : ∀ d e, e + d = m → (∃ k, e ≤ k ∧ k < m ∧ (R >>> (f k &&& 31)) &&& 1 = 0) → wY_whole_78 post R (nI p) (nI m) w f g h (d + 1) (nI e) := by
  intro d
  induction d with
  | zero =>
    intro e he hk
    obtain ⟨k, k1, k2, _⟩ := hk
    omega
  | succ d ih =>
    intro e he hk
    have c : ¬ nI m ≤ nI e := nI_ge (by omega) (by omega)
    have c12 : ¬ (12 : Int32) ≤ nI e := nI_ge (b := 12) (by omega) (by decide)
    have hi : vp_in (nI e) 12 := vp_in_nI (by omega) (by omega)
    have hc : (nI e).toNatClampNeg = e := nI_clamp (by omega)
    refine br_f c (br_f c12 ⟨hi, br_c (fun _ => hp) (fun h1 => nm_r (nI_1 e) (ih (e + 1) (by omega) ?_))⟩)
    rw [hc] at h1
    obtain ⟨k, k1, k2, k3⟩ := hk
    have ne : ¬ k = e := fun z => h1 (z ▸ k3)
    exact ⟨k, by omega, k2, k3⟩
theorem ty_wh1 {post : Int32 → Prop} {p m : Nat} {w R : Int32} {f g h : Nat → Int32} (hm : m ≤ 12) (ha : ∀ e, e < m → ¬ (R >>> (f e &&& 31)) &&& 1 = 0) (hp : post 1) : ∀ d e, e + d = m → wY_whole_78 post R (nI p) (nI m) w f g h (d + 1) (nI e) := by
  intro d
  induction d with
  | zero =>
    intro e he
    obtain rfl : e = m := by omega
    exact br_t (nI_le (Nat.le_refl _) (by omega)) hp
  | succ d ih =>
    intro e he
    have c : ¬ nI m ≤ nI e := nI_ge (by omega) (by omega)
    have c12 : ¬ (12 : Int32) ≤ nI e := nI_ge (b := 12) (by omega) (by decide)
    have hi : vp_in (nI e) 12 := vp_in_nI (by omega) (by omega)
    have hc : (nI e).toNatClampNeg = e := nI_clamp (by omega)
    refine br_f c (br_f c12 ⟨hi, br_f ?_ (nm_r (nI_1 e) (ih (e + 1) (by omega)))⟩)
    rw [hc]
    exact ha e (by omega)
theorem ty_rnds {post : Int32 → Prop} {p m : Nat} {w r : Int32} {t f g h : Nat → Int32} (hm : m ≤ 12) (he : tj_ends p m t f g) (hp : ∃ n, wY_whole_78 post (tj_it t m r 7) (nI p) (nI m) w f g h n 0) : ∀ d j, j + d = 7 → wY_whole_11 post (nI p) (nI m) w f g h (d + 1) (tj_it t m r j) (nI j) := by
  intro d
  induction d with
  | zero =>
    intro j hj
    obtain rfl : j = 7 := by omega
    exact br_t (nI_le (a := 7) (b := 7) (Nat.le_refl _) (by decide)) hp
  | succ d ih =>
    intro j hj
    have c : ¬ (7 : Int32) ≤ nI j := nI_ge (b := 7) (by omega) (by decide)
    exact br_f c ⟨m + 1, ty_rnd (r := tj_it t m r j) hm he (ih (j + 1) (by omega)) m 0 (by omega)⟩
theorem ty_whole {post : Int32 → Prop} {p m : Nat} {w : Int32} {t f g h : Nat → Int32} (hm : m ≤ 12) (he : tj_ends p m t f g) (hp : ∃ n, wY_whole_78 post (tj_it t m ((1 : Int32) <<< (f 0 &&& 31)) 7) (nI p) (nI m) w f g h n 0) : wpY_whole post (nI p, nI m, w, f, g, h) := nm_e ⟨7 + 1, ty_rnds hm he hp 7 0 (by omega)⟩
theorem ty_pn {post : Int32 → Prop} {p m : Nat} {w : Int32} {f g h : Nat → Int32} (hm : m ≤ 12) (hp : post (-1)) : ∀ d e, e + d = m → (∃ k, e ≤ k ∧ k < m ∧ ¬ 0 ≤ h k) → wY_postman_2 post (nI p) (nI m) w f g h (d + 1) (nI e) := by
  intro d
  induction d with
  | zero =>
    intro e he hk
    obtain ⟨k, k1, k2, _⟩ := hk
    omega
  | succ d ih =>
    intro e he hk
    have c : ¬ nI m ≤ nI e := nI_ge (by omega) (by omega)
    have c12 : ¬ (12 : Int32) ≤ nI e := nI_ge (b := 12) (by omega) (by decide)
    have hi : vp_in (nI e) 12 := vp_in_nI (by omega) (by omega)
    have hc : (nI e).toNatClampNeg = e := nI_clamp (by omega)
    refine br_f c (br_f c12 ⟨hi, br_c (fun h1 => nm_r (nI_1 e) (ih (e + 1) (by omega) ?_)) (fun _ => hp)⟩)
    rw [hc] at h1
    obtain ⟨k, k1, k2, k3⟩ := hk
    have ne : ¬ k = e := fun z => k3 (z ▸ h1)
    exact ⟨k, by omega, k2, k3⟩
theorem ty_pp {post : Int32 → Prop} {p m : Nat} {w : Int32} {f g h : Nat → Int32} (hm : m ≤ 12) (ha : ∀ e, e < m → 0 ≤ h e) (hp : wY_postman_33 post (nI p) (nI m) w f g h) : ∀ d e, e + d = m → wY_postman_2 post (nI p) (nI m) w f g h (d + 1) (nI e) := by
  intro d
  induction d with
  | zero =>
    intro e he
    obtain rfl : e = m := by omega
    exact br_t (nI_le (Nat.le_refl _) (by omega)) hp
  | succ d ih =>
    intro e he
    have c : ¬ nI m ≤ nI e := nI_ge (by omega) (by omega)
    have c12 : ¬ (12 : Int32) ≤ nI e := nI_ge (b := 12) (by omega) (by decide)
    have hi : vp_in (nI e) 12 := vp_in_nI (by omega) (by omega)
    have hc : (nI e).toNatClampNeg = e := nI_clamp (by omega)
    refine br_f c (br_f c12 ⟨hi, br_t ?_ (nm_r (nI_1 e) (ih (e + 1) (by omega)))⟩)
    rw [hc]
    exact ha e (by omega)
theorem ty_pm1 {post : Int32 → Prop} {p m : Nat} {w : Int32} {f g h : Nat → Int32} (hm : m ≤ 12) (hn : ∃ k, k < m ∧ ¬ 0 ≤ h k) (hp : post (-1)) : wpY_postman post (nI p, nI m, w, f, g, h) := by
  obtain ⟨k, k1, k2⟩ := hn
  exact ⟨m + 1, ty_pn hm hp m 0 (by omega) ⟨k, by omega, k1, k2⟩⟩
theorem ty_pm0 {post : Int32 → Prop} {p : Nat} {w : Int32} {f g h : Nat → Int32} (hp : post 0) : wpY_postman post (nI p, nI 0, w, f, g, h) := ⟨0 + 1, ty_pp (m := 0) (by omega) (fun _ z => absurd z (by omega)) (br_t rfl hp) 0 0 (by omega)⟩
theorem ty_pm2 {post : Int32 → Prop} {p m : Nat} {w : Int32} {t f g h : Nat → Int32} (hm0 : 0 < m) (hm : m ≤ 12) (he : tj_ends p m t f g) (ha : ∀ e, e < m → 0 ≤ h e) (hn : ∃ k, k < m ∧ (tj_it t m ((1 : Int32) <<< (f 0 &&& 31)) 7 >>> (f k &&& 31)) &&& 1 = 0) (hp : post (-2)) : wpY_postman post (nI p, nI m, w, f, g, h) := by
  obtain ⟨k, k1, k2⟩ := hn
  refine ⟨m + 1, ty_pp hm ha ?_ m 0 (by omega)⟩
  unfold wY_postman_33
  exact br_f (nI_ne0 hm0 (by omega)) (ty_whole hm he ⟨m + 1, ty_wh0 hm (br_t rfl hp) m 0 (by omega) ⟨k, by omega, k1, k2⟩⟩)
theorem ty_pmA {post : Int32 → Prop} {p m : Nat} {w : Int32} {f g h : Nat → Int32} (hm : m ≤ 12) (hp : post (tj_post (tj_od f g) h m)) : wpY_odd (fun r => wpY_search (fun r2 => wpY_weightOf (fun r3 => post r3) (nI p, nI m, w, f, g, h) r2) (nI p, nI m, w, f, g, h) r 0 0) (nI p, nI m, w, f, g, h) ((1 : Int32) <<< (nI m &&& 31) - 1) := by
  refine ty_oddA hm ?_
  refine ty_bw hm ?_
  exact hp
theorem ty_pm3 {post : Int32 → Prop} {p m : Nat} {w : Int32} {t f g h : Nat → Int32} (hm0 : 0 < m) (hm : m ≤ 12) (he : tj_ends p m t f g) (ha : ∀ e, e < m → 0 ≤ h e) (hj : ∀ e, e < m → ¬ (tj_it t m ((1 : Int32) <<< (f 0 &&& 31)) 7 >>> (f e &&& 31)) &&& 1 = 0) (hp : post (tj_post (tj_od f g) h m)) : wpY_postman post (nI p, nI m, w, f, g, h) := by
  refine ⟨m + 1, ty_pp hm ha ?_ m 0 (by omega)⟩
  unfold wY_postman_33
  exact br_f (nI_ne0 hm0 (by omega)) (ty_whole hm he ⟨m + 1, ty_wh1 hm hj (br_f tj_10 (ty_pmA hm hp)) m 0 (by omega)⟩)
theorem ty_rem {post : Int32 → SY → Prop} {p m r : Nat} {w : Int32} {f g h : Nat → Int32} (hm : m + 1 ≤ 12) (hp : post (nI m) (nI p, nI m, w, tj_shf f r m, tj_shf g r m, tj_shf h r m)) : ∀ d e, e + d = m → r ≤ e → wY_remove_12 post (nI p) (nI (m + 1)) w (d + 1) (nI e) (tj_shf f r e) (tj_shf g r e) (tj_shf h r e) := by
  intro d
  induction d with
  | zero =>
    intro e he hr
    obtain rfl : e = m := by omega
    have c : nI (e + 1) - 1 ≤ nI e := by
      rw [nI_pred]
      exact nI_le (Nat.le_refl _) (by omega)
    refine br_t c ?_
    unfold wY_remove_76
    exact nm_r (nI_pred e) hp
  | succ d ih =>
    intro e he hr
    have c : ¬ nI (m + 1) - 1 ≤ nI e := by
      rw [nI_pred]
      exact nI_ge (by omega) (by omega)
    have c11 : ¬ (11 : Int32) ≤ nI e := nI_ge (b := 11) (by omega) (by decide)
    have hi : vp_in (nI e) 12 := vp_in_nI (by omega) (by omega)
    have hi1 : vp_in (nI e + 1) 12 := by
      rw [nI_1]
      exact vp_in_nI (by omega) (by omega)
    have hc : (nI e).toNatClampNeg = e := nI_clamp (by omega)
    have hc1 : (nI e + 1).toNatClampNeg = e + 1 := by
      rw [nI_1]
      exact nI_clamp (by omega)
    have st : ∀ a : Nat → Int32, upd (tj_shf a r e) (nI e).toNatClampNeg (tj_shf a r e (nI e + 1).toNatClampNeg) = tj_shf a r (e + 1) := by
      intro a
      rw [hc, hc1]
      exact tj_shf_s a hr
    exact br_f c (br_f c11 ⟨hi1, hi, nm_r (st f) ⟨hi1, hi, nm_r (st g) ⟨hi1, hi, nm_r (st h) (nm_r (nI_1 e) (ih (e + 1) (by omega) (by omega)))⟩⟩⟩)
theorem ty_rem0 {post : Int32 → SY → Prop} {p m r : Nat} {w : Int32} {f g h : Nat → Int32} (hm : m + 1 ≤ 12) (hr : r ≤ m) (hp : post (nI m) (nI p, nI m, w, tj_shf f r m, tj_shf g r m, tj_shf h r m)) : ∃ n, wY_remove_12 post (nI p) (nI (m + 1)) w n (nI r) f g h := by
  have z := ty_rem hm hp (m - r) r (by omega) (Nat.le_refl r)
  rw [tj_shf_0, tj_shf_0, tj_shf_0] at z
  exact ⟨_, z⟩
theorem ty_pl1 {post : Int32 → Prop} {p i : Nat} {n w : Int32} {f g h : Nat → Int32} (hp7 : p ≤ 7) (hi : i < p) (hp : post 0) : wpY_bad post (nI p, n, w, f, g, h) (nI i) := br_f (nI_pos (by omega)) (br_t (nI_lt hi (by omega)) hp)
theorem ty_pl0 {post : Int32 → Prop} {p : Nat} {n w x : Int32} {f g h : Nat → Int32} (hx : x < 0 ∨ nI p ≤ x) (hp : post 1) : wpY_bad post (nI p, n, w, f, g, h) x := br_c (fun _ => hp) (fun h1 => br_f (Int32.not_lt.mpr (hx.resolve_left h1)) hp)
theorem ty_rd1 {post : Int32 → Prop} {m i : Nat} {n w : Int32} {f g h : Nat → Int32} (hm : m ≤ 12) (hi : i < m) (hp : post 0) : wpY_badRoad post (n, nI m, w, f, g, h) (nI i) := br_f (nI_pos (by omega)) (br_f (nI_ge hi (by omega)) (br_t (nI_le (b := 11) (by omega) (by decide)) hp))
theorem ty_rd0 {post : Int32 → Prop} {m : Nat} {n w x : Int32} {f g h : Nat → Int32} (hx : x < 0 ∨ nI m ≤ x) (hp : post 1) : wpY_badRoad post (n, nI m, w, f, g, h) x := br_c (fun _ => hp) (fun h1 => br_t (hx.resolve_left h1) hp)
theorem ty_wt1 {post : Int32 → Prop} {u : SY} {x : Int32} (h1 : ¬ x < -9) (h2 : ¬ 20 < x) (hp : post 0) : wpY_far post u x := br_f h1 (br_t (Int32.not_lt.mp h2) hp)
theorem ty_wt0 {post : Int32 → Prop} {u : SY} {x : Int32} (hx : x < -9 ∨ 20 < x) (hp : post 1) : wpY_far post u x := br_c (fun _ => hp) (fun h1 => br_f (Int32.not_le.mpr (hx.resolve_left h1)) hp)
