theorem pk_us {f : Nat → Int32} {k : Nat} {x : Int32} : upd f k x k = x := if_pos rfl
theorem pk_un {f : Nat → Int32} {k j : Nat} {x : Int32} (h : j ≠ k) : upd f k x j = f j := if_neg h
theorem pk_sub {a b : Nat} (h : b ≤ a) : nI a - nI b = nI (a - b) := by
  obtain ⟨c, rfl⟩ : ∃ c, a = c + b := ⟨a - b, by omega⟩
  rw [← nI_add, Int32.add_sub_cancel, Nat.add_sub_cancel]
theorem pk_m1 (n : Nat) : nI (n + 1) + (-1) = nI n := by
  rw [← nI_1, Int32.add_assoc, show (1 : Int32) + (-1) = 0 from rfl, Int32.add_zero]
theorem pk_ix (x : Int32) {n : Nat} (hn : n < 2 ^ 31) : x < 0 ∨ nI n ≤ x ∨ ∃ j : Nat, j < n ∧ x = nI j := by
  by_cases h : x < 0
  · exact Or.inl h
  · obtain ⟨j, hj, rfl⟩ := nI_of h
    by_cases h2 : j < n
    · exact Or.inr (Or.inr ⟨j, h2, rfl⟩)
    · exact Or.inr (Or.inl (nI_le (by omega) hj))
theorem pk_le {x y : Int32} {A B : Prop} (a b : Nat) (f : a ≤ b → A) (g : b < a → B) (hx : x = nI a := by rfl) (hy : y = nI b := by rfl) (ha : a < 2 ^ 31 := by omega) (hb : b < 2 ^ 31 := by omega) : (x ≤ y → A) ∧ (¬ x ≤ y → B) := by
  subst hx hy
  rw [nI_leI ha hb]
  exact ⟨f, fun z => g (by omega)⟩
theorem pk_lt {x y : Int32} {A B : Prop} (a b : Nat) (f : a < b → A) (g : b ≤ a → B) (hx : x = nI a := by rfl) (hy : y = nI b := by rfl) (ha : a < 2 ^ 31 := by omega) (hb : b < 2 ^ 31 := by omega) : (x < y → A) ∧ (¬ x < y → B) := by
  subst hx hy
  rw [nI_ltI ha hb]
  exact ⟨f, fun z => g (by omega)⟩
theorem pk_eq {x y : Int32} {A B : Prop} (a b : Nat) (f : a = b → A) (g : a ≠ b → B) (hx : x = nI a := by rfl) (hy : y = nI b := by rfl) (ha : a < 2 ^ 31 := by omega) (hb : b < 2 ^ 31 := by omega) : (x = y → A) ∧ (¬ x = y → B) := by
  subst hx hy
  rw [nI_eq ha hb]
  exact ⟨f, g⟩
theorem pk_in {x : Int32} (n N : Nat) (h : n < N) (hx : x = nI n := by rfl) (hN : N < 2 ^ 31 := by omega) : vp_in x N := by
  subst hx
  exact vp_in_nI h hN
theorem pk_cl {x : Int32} (n : Nat) (hx : x = nI n := by rfl) (h : n < 2 ^ 31 := by omega) : x.toNatClampNeg = n := by
  subst hx
  exact nI_clamp h
def bt (x : Int32) (i : Nat) : Bool := x.toBitVec.getLsbD i
theorem b_ext {x y : Int32} (h : ∀ i, i < 32 → bt x i = bt y i) : x = y := Int32.toBitVec_inj.mp (BitVec.eq_of_getLsbD_eq (fun i hi => h i hi))
theorem b_or (x y : Int32) (i : Nat) : bt (x ||| y) i = (bt x i || bt y i) := by unfold bt; rw [Int32.toBitVec_or, BitVec.getLsbD_or]
theorem b_and (x y : Int32) (i : Nat) : bt (x &&& y) i = (bt x i && bt y i) := by unfold bt; rw [Int32.toBitVec_and, BitVec.getLsbD_and]
theorem b_xor (x y : Int32) (i : Nat) : bt (x ^^^ y) i = (bt x i ^^ bt y i) := by unfold bt; rw [Int32.toBitVec_xor, BitVec.getLsbD_xor]
theorem b_0 (i : Nat) : bt 0 i = false := BitVec.getLsbD_zero
theorem s_l : ∀ n, n < 32 → ((nI n &&& 31).toBitVec.smod 32).toNat = n := by decide +kernel
theorem b_shl (n : Nat) (hn : n < 32) (x : Int32) {i : Nat} (hi : i < 32) : bt (x <<< (nI n &&& 31)) i = (decide (n ≤ i) && bt x (i - n)) := by
  unfold bt
  rw [Int32.toBitVec_shiftLeft]
  show (x.toBitVec <<< ((nI n &&& 31).toBitVec.smod 32).toNat).getLsbD i = _
  rw [s_l n hn, BitVec.getLsbD_shiftLeft]
  rcases Nat.lt_or_ge i n with h | h
  · simp [h, Nat.not_le.mpr h]
  · simp [hi, h, Nat.not_lt.mpr h]
theorem b_sshr (n : Nat) (hn : n < 32) (x : Int32) {i : Nat} (hi : i < 32) : bt (x >>> (nI n &&& 31)) i = if n + i < 32 then bt x (n + i) else bt x 31 := by
  unfold bt
  rw [Int32.toBitVec_shiftRight]
  show (x.toBitVec.sshiftRight ((nI n &&& 31).toBitVec.smod 32).toNat).getLsbD i = _
  rw [s_l n hn, BitVec.getLsbD_sshiftRight, BitVec.msb_eq_getLsbD_last]
  simp [hi]
theorem tj_b1 : ∀ i, i < 32 → bt 1 i = decide (i = 0) := by decide +kernel
theorem tj_bs {f i : Nat} (hf : f < 32) (hi : i < 32) : bt ((1 : Int32) <<< (nI f &&& 31)) i = decide (i = f) := by
  rw [b_shl f hf 1 hi, tj_b1 (i - f) (by omega), ← Bool.decide_and]
  exact decide_eq_decide.mpr (by omega)
theorem tj_hi {x : Int32} {i : Nat} (h : bt x i = true) : i < 32 := by
  rcases Nat.lt_or_ge i 32 with h2 | h2
  · exact h2
  · rw [show bt x i = false from BitVec.getLsbD_of_ge _ _ h2] at h
    cases h
theorem tj_bit {R : Int32} {f : Nat} (hf : f < 32) : (R >>> (nI f &&& 31)) &&& 1 = 0 ↔ bt R f = false := by
  have h32 : (0 : Nat) < 32 := by decide
  constructor
  · intro h
    have e : bt ((R >>> (nI f &&& 31)) &&& 1) 0 = bt 0 0 := by rw [h]
    rw [b_and, b_sshr f hf R h32, tj_b1 0 h32, b_0, Nat.add_zero, if_pos hf] at e
    cases hb : bt R f with
    | false => rfl
    | true => rw [hb] at e; cases e
  · intro h
    apply b_ext
    intro i hi
    rw [b_and, b_0, tj_b1 i hi]
    by_cases h0 : i = 0
    · subst h0
      rw [b_sshr f hf R h32, Nat.add_zero, if_pos hf, h]
      rfl
    · rw [decide_eq_false h0, Bool.and_false]
/-- how many of the first p bits are set -/
def tj_pc (x : Int32) : Nat → Nat
  | 0 => 0
  | p + 1 => tj_pc x p + (bt x p).toNat
def tj_sub (x y : Int32) : Prop := ∀ i, bt x i = true → bt y i = true
theorem tj_pc_le (x : Int32) : ∀ p, tj_pc x p ≤ p := by
  intro p
  induction p with
  | zero => exact Nat.le_refl 0
  | succ p ih =>
    have a : (bt x p).toNat ≤ 1 := Bool.toNat_le _
    show tj_pc x p + (bt x p).toNat ≤ p + 1
    omega
theorem tj_tn {x y : Int32} (h : tj_sub x y) (p : Nat) : (bt x p).toNat ≤ (bt y p).toNat := by
  cases hx : bt x p with
  | false => exact Nat.zero_le _
  | true => rw [h p hx]; exact Nat.le_refl _
theorem tj_pc_mono {x y : Int32} (h : tj_sub x y) : ∀ p, tj_pc x p ≤ tj_pc y p := by
  intro p
  induction p with
  | zero => exact Nat.le_refl 0
  | succ p ih =>
    have a := tj_tn h p
    show tj_pc x p + (bt x p).toNat ≤ tj_pc y p + (bt y p).toNat
    omega
theorem tj_pc_lt {x y : Int32} (h : tj_sub x y) {i : Nat} (hx : bt x i = false) (hy : bt y i = true) : ∀ p, i < p → tj_pc x p < tj_pc y p := by
  intro p
  induction p with
  | zero => intro hi; omega
  | succ p ih =>
    intro hi
    show tj_pc x p + (bt x p).toNat < tj_pc y p + (bt y p).toNat
    rcases Nat.lt_or_ge i p with h1 | h1
    · have a := ih h1
      have b := tj_tn h p
      omega
    · have e : i = p := by omega
      subst e
      have a := tj_pc_mono h i
      rw [hx, hy]
      show tj_pc x i + 0 < tj_pc y i + 1
      omega
theorem tj_ne {x y : Int32} (hs : tj_sub x y) {p : Nat} (hp : ∀ i, bt y i = true → i < p) (hne : ¬ y = x) : tj_pc x p < tj_pc y p := by
  by_cases h : ∃ i, bt x i = false ∧ bt y i = true
  · obtain ⟨i, a, b⟩ := h
    exact tj_pc_lt hs a b p (hp i b)
  · refine absurd (b_ext (fun i _ => ?_)) hne
    refine Bool.eq_iff_iff.mpr ⟨fun hy => ?_, hs i⟩
    cases hx : bt x i with
    | true => rfl
    | false => exact absurd ⟨i, hx, hy⟩ h
theorem tj_sub_or (x y : Int32) : tj_sub x (x ||| y) := fun i h => by rw [b_or, h, Bool.true_or]
/-- one round over the first roads -/
def tj_rnd (t : Nat → Int32) (r : Int32) : Nat → Int32
  | 0 => r
  | e + 1 => if (t e &&& tj_rnd t r e) = 0 then tj_rnd t r e else tj_rnd t r e ||| t e
theorem tj_rnd1 (t : Nat → Int32) (r : Int32) (e : Nat) : tj_rnd t r (e + 1) = if (t e &&& tj_rnd t r e) = 0 then tj_rnd t r e else tj_rnd t r e ||| t e := rfl
/-- rounds over m roads -/
def tj_it (t : Nat → Int32) (m : Nat) (r : Int32) : Nat → Int32
  | 0 => r
  | j + 1 => tj_rnd t (tj_it t m r j) m
theorem tj_rnd_s (t : Nat → Int32) (r : Int32) (e : Nat) : tj_sub (tj_rnd t r e) (tj_rnd t r (e + 1)) := by
  rw [tj_rnd1]
  split
  · exact fun _ h => h
  · exact tj_sub_or _ _
theorem tj_rnd_sub (t : Nat → Int32) (r : Int32) (e d : Nat) : tj_sub (tj_rnd t r e) (tj_rnd t r (e + d)) := by
  induction d with
  | zero => exact fun _ h => h
  | succ d ih => exact fun i hi => tj_rnd_s t r (e + d) i (ih i hi)
theorem tj_rnd_0 (t : Nat → Int32) (r : Int32) (m : Nat) : tj_sub r (tj_rnd t r m) := by
  have h := tj_rnd_sub t r 0 m
  rw [Nat.zero_add] at h
  exact h
theorem tj_rnd_in {t : Nat → Int32} {p m : Nat} (ht : ∀ e, e < m → ∀ i, bt (t e) i = true → i < p) {r : Int32} (hr : ∀ i, bt r i = true → i < p) : ∀ e, e ≤ m → ∀ i, bt (tj_rnd t r e) i = true → i < p := by
  intro e
  induction e with
  | zero => exact fun _ => hr
  | succ e ih =>
    intro he i
    rw [tj_rnd1]
    split
    · exact ih (by omega) i
    · rw [b_or]
      intro h
      simp only [Bool.or_eq_true] at h
      rcases h with h | h
      · exact ih (by omega) i h
      · exact ht e (by omega) i h
theorem tj_it_in {t : Nat → Int32} {p m : Nat} (ht : ∀ e, e < m → ∀ i, bt (t e) i = true → i < p) {r : Int32} (hr : ∀ i, bt r i = true → i < p) : ∀ j i, bt (tj_it t m r j) i = true → i < p := by
  intro j
  induction j with
  | zero => exact hr
  | succ j ih => exact tj_rnd_in ht ih m (Nat.le_refl m)
theorem tj_fix_e {t : Nat → Int32} {r : Int32} {m : Nat} (h : tj_rnd t r m = r) (e : Nat) (he : e ≤ m) : tj_rnd t r e = r := by
  apply b_ext
  intro i _
  have a := tj_rnd_0 t r e i
  have b := tj_rnd_sub t r e (m - e) i
  rw [show e + (m - e) = m by omega, h] at b
  exact Bool.eq_iff_iff.mpr ⟨b, a⟩
theorem tj_fix {t : Nat → Int32} {r : Int32} {m : Nat} (h : tj_rnd t r m = r) {e : Nat} (he : e < m) (hne : ¬ (t e &&& r) = 0) : r ||| t e = r := by
  have a := tj_fix_e h (e + 1) he
  rw [tj_rnd1, tj_fix_e h e (by omega), if_neg hne] at a
  exact a
theorem tj_it_key {t : Nat → Int32} {p m : Nat} (ht : ∀ e, e < m → ∀ i, bt (t e) i = true → i < p) {r : Int32} (hr : ∀ i, bt r i = true → i < p) (j : Nat) : tj_rnd t (tj_it t m r j) m = tj_it t m r j ∨ tj_pc (tj_it t m r j) p < tj_pc (tj_it t m r (j + 1)) p := by
  by_cases hf : tj_rnd t (tj_it t m r j) m = tj_it t m r j
  · exact Or.inl hf
  · exact Or.inr (tj_ne (tj_rnd_0 t (tj_it t m r j) m) (tj_rnd_in ht (tj_it_in ht hr j) m (Nat.le_refl m)) hf)
theorem tj_it_ge {t : Nat → Int32} {p m : Nat} (ht : ∀ e, e < m → ∀ i, bt (t e) i = true → i < p) {r : Int32} (hr : ∀ i, bt r i = true → i < p) (j : Nat) : tj_rnd t (tj_it t m r j) m = tj_it t m r j ∨ j ≤ tj_pc (tj_it t m r j) p := by
  induction j with
  | zero => exact Or.inr (Nat.zero_le _)
  | succ j ih =>
    have same : tj_rnd t (tj_it t m r j) m = tj_it t m r j → tj_rnd t (tj_it t m r (j + 1)) m = tj_it t m r (j + 1) := by
      intro hf
      show tj_rnd t (tj_rnd t (tj_it t m r j) m) m = tj_rnd t (tj_it t m r j) m
      rw [hf, hf]
    rcases ih with ih | ih
    · exact Or.inl (same ih)
    · rcases tj_it_key ht hr j with hf | hf
      · exact Or.inl (same hf)
      · exact Or.inr (by omega)
theorem tj_it_fix {t : Nat → Int32} {p m : Nat} (ht : ∀ e, e < m → ∀ i, bt (t e) i = true → i < p) {r : Int32} (hr : ∀ i, bt r i = true → i < p) : tj_rnd t (tj_it t m r p) m = tj_it t m r p := by
  rcases tj_it_ge ht hr p with h | h
  · exact h
  · rcases tj_it_key ht hr p with hf | hf
    · exact hf
    · have a := tj_pc_le (tj_it t m r (p + 1)) p
      omega
theorem tj_it_more {t : Nat → Int32} {m j : Nat} {r : Int32} (h : tj_rnd t (tj_it t m r j) m = tj_it t m r j) (d : Nat) : tj_it t m r (j + d) = tj_it t m r j := by
  induction d with
  | zero => rfl
  | succ d ih =>
    show tj_rnd t (tj_it t m r (j + d)) m = _
    rw [ih, h]
theorem tj_it_c (t : Nat → Int32) (m : Nat) (r : Int32) (j : Nat) : tj_it t m r (j + 1) = tj_it t m (tj_rnd t r m) j := by
  induction j with
  | zero => rfl
  | succ j ih =>
    show tj_rnd t (tj_it t m r (j + 1)) m = tj_rnd t (tj_it t m (tj_rnd t r m) j) m
    rw [ih]
theorem tj_start {t : Nat → Int32} {r r' : Int32} (h : tj_rnd t r 1 = tj_rnd t r' 1) (e : Nat) : tj_rnd t r (e + 1) = tj_rnd t r' (e + 1) := by
  induction e with
  | zero => exact h
  | succ e ih => rw [tj_rnd1 t r (e + 1), tj_rnd1 t r' (e + 1), ih]
theorem tj_same {t : Nat → Int32} {p m : Nat} {s : Int32} (hm : 0 < m) (hp0 : 0 < p) (hp : p ≤ 7) (ht : ∀ e, e < m → ∀ i, bt (t e) i = true → i < p) (h0 : ¬ (t 0 &&& s) = 0) (h1 : s ||| t 0 = t 0) : tj_it t m (t 0) p = tj_it t m s 7 := by
  have a0 : tj_rnd t (t 0) 1 = t 0 := by
    show (if (t 0 &&& t 0) = 0 then t 0 else t 0 ||| t 0) = t 0
    rw [Int32.or_self]
    exact ite_self _
  have a1 : tj_rnd t s 1 = t 0 := by
    show (if (t 0 &&& s) = 0 then s else s ||| t 0) = t 0
    rw [if_neg h0, h1]
  have e1 : tj_rnd t (t 0) m = tj_rnd t s m := by
    obtain ⟨e, rfl⟩ : ∃ e, m = e + 1 := ⟨m - 1, by omega⟩
    exact tj_start (a0.trans a1.symm) e
  obtain ⟨q, rfl⟩ : ∃ q, p = q + 1 := ⟨p - 1, by omega⟩
  have fx := tj_it_fix ht (ht 0 hm)
  have e7 : tj_it t m s 7 = tj_it t m (tj_rnd t s m) 6 := tj_it_c t m s 6
  rw [tj_it_c t m (t 0) q] at fx
  rw [tj_it_c t m (t 0) q, e7, ← e1]
  have b := tj_it_more fx (6 - q)
  rw [show q + (6 - q) = 6 by omega] at b
  exact b.symm
/-- the places of a road with ends i and j -/
theorem tj_tb {i j : Nat} (hi : i < 32) (hj : j < 32) (k : Nat) : bt (((1 : Int32) <<< (nI i &&& 31)) ||| ((1 : Int32) <<< (nI j &&& 31))) k = true ↔ k = i ∨ k = j := by
  rw [b_or, Bool.or_eq_true]
  constructor
  · intro h
    rcases h with h | h
    · have a := tj_hi h
      rw [tj_bs hi a] at h
      exact Or.inl (of_decide_eq_true h)
    · have a := tj_hi h
      rw [tj_bs hj a] at h
      exact Or.inr (of_decide_eq_true h)
  · intro h
    rcases h with h | h
    · subst h
      rw [tj_bs hi hi]
      exact Or.inl (decide_eq_true rfl)
    · subst h
      rw [tj_bs hj hj]
      exact Or.inr (decide_eq_true rfl)
theorem tj_nz {x y : Int32} {k : Nat} (hx : bt x k = true) (hy : bt y k = true) : ¬ (x &&& y) = 0 := by
  intro h
  have e : bt (x &&& y) k = bt 0 k := by rw [h]
  rw [b_and, hx, hy, b_0] at e
  cases e
/-- both tests of a road say the same of a set of places that a round leaves as it is -/
theorem tj_test {t : Nat → Int32} {r : Int32} {m e i j : Nat} (h : tj_rnd t r m = r) (he : e < m) (hi : i < 32) (hj : j < 32) (ht : t e = ((1 : Int32) <<< (nI i &&& 31)) ||| ((1 : Int32) <<< (nI j &&& 31))) : (t e &&& r) = 0 ↔ (r >>> (nI i &&& 31)) &&& 1 = 0 := by
  have ti : bt (t e) i = true := by
    rw [ht]
    exact (tj_tb hi hj i).mpr (Or.inl rfl)
  rw [tj_bit hi]
  constructor
  · intro h0
    cases hr : bt r i with
    | false => rfl
    | true => exact absurd h0 (tj_nz ti hr)
  · intro hr
    by_cases h0 : (t e &&& r) = 0
    · exact h0
    · have a := tj_fix h he h0
      rw [← a, b_or, ti, Bool.or_true] at hr
      cases hr
