section
theorem pk_us {f : Nat → Int32} {k : Nat} {x : Int32} : upd f k x k = x := if_pos rfl
theorem pk_un {f : Nat → Int32} {k j : Nat} {x : Int32} (h : j ≠ k) : upd f k x j = f j := if_neg h
theorem pk_sub {a b : Nat} (h : b ≤ a) : nI a - nI b = nI (a - b) := by
  obtain ⟨c, rfl⟩ : ∃ c, a = c + b := ⟨a - b, by omega⟩
  rw [← nI_add, Int32.add_sub_cancel, Nat.add_sub_cancel]
theorem pk_m1 (n : Nat) : nI (n + 1) + (-1) = nI n := by
  rw [← nI_1, Int32.add_assoc, show (1 : Int32) + (-1) = 0 from rfl, Int32.add_zero]
theorem pk_ix (x : Int32) {n : Nat} (hn : n < 2 ^ 31) : x < 0 ∨ nI n ≤ x ∨ ∃ j : Nat, j < n ∧ x = nI j := by
  by_cases h : x < 0
  · exact Or.inl h
  · obtain ⟨j, hj, rfl⟩ := nI_of h
    by_cases h2 : j < n
    · exact Or.inr (Or.inr ⟨j, h2, rfl⟩)
    · exact Or.inr (Or.inl (nI_le (by omega) hj))
theorem pk_le {x y : Int32} {A B : Prop} (a b : Nat) (f : a ≤ b → A) (g : b < a → B) (hx : x = nI a := by rfl) (hy : y = nI b := by rfl) (ha : a < 2 ^ 31 := by omega) (hb : b < 2 ^ 31 := by omega) : (x ≤ y → A) ∧ (¬ x ≤ y → B) := by
  subst hx hy
  rw [nI_leI ha hb]
  exact ⟨f, fun z => g (by omega)⟩
theorem pk_lt {x y : Int32} {A B : Prop} (a b : Nat) (f : a < b → A) (g : b ≤ a → B) (hx : x = nI a := by rfl) (hy : y = nI b := by rfl) (ha : a < 2 ^ 31 := by omega) (hb : b < 2 ^ 31 := by omega) : (x < y → A) ∧ (¬ x < y → B) := by
  subst hx hy
  rw [nI_ltI ha hb]
  exact ⟨f, fun z => g (by omega)⟩
theorem pk_eq {x y : Int32} {A B : Prop} (a b : Nat) (f : a = b → A) (g : a ≠ b → B) (hx : x = nI a := by rfl) (hy : y = nI b := by rfl) (ha : a < 2 ^ 31 := by omega) (hb : b < 2 ^ 31 := by omega) : (x = y → A) ∧ (¬ x = y → B) := by
  subst hx hy
  rw [nI_eq ha hb]
  exact ⟨f, g⟩
theorem pk_in {x : Int32} (n N : Nat) (h : n < N) (hx : x = nI n := by rfl) (hN : N < 2 ^ 31 := by omega) : vp_in x N := by
  subst hx
  exact vp_in_nI h hN
theorem pk_cl {x : Int32} (n : Nat) (hx : x = nI n := by rfl) (h : n < 2 ^ 31 := by omega) : x.toNatClampNeg = n := by
  subst hx
  exact nI_clamp h
def bt (x : Int32) (i : Nat) : Bool := x.toBitVec.getLsbD i
theorem b_ext {x y : Int32} (h : ∀ i, i < 32 → bt x i = bt y i) : x = y := Int32.toBitVec_inj.mp (BitVec.eq_of_getLsbD_eq (fun i hi => h i hi))
theorem b_or (x y : Int32) (i : Nat) : bt (x ||| y) i = (bt x i || bt y i) := by unfold bt; rw [Int32.toBitVec_or, BitVec.getLsbD_or]
theorem b_and (x y : Int32) (i : Nat) : bt (x &&& y) i = (bt x i && bt y i) := by unfold bt; rw [Int32.toBitVec_and, BitVec.getLsbD_and]
theorem b_xor (x y : Int32) (i : Nat) : bt (x ^^^ y) i = (bt x i ^^ bt y i) := by unfold bt; rw [Int32.toBitVec_xor, BitVec.getLsbD_xor]
theorem b_0 (i : Nat) : bt 0 i = false := BitVec.getLsbD_zero
theorem s_l : ∀ n, n < 32 → ((nI n &&& 31).toBitVec.smod 32).toNat = n := by decide +kernel
theorem b_shl (n : Nat) (hn : n < 32) (x : Int32) {i : Nat} (hi : i < 32) : bt (x <<< (nI n &&& 31)) i = (decide (n ≤ i) && bt x (i - n)) := by
  unfold bt
  rw [Int32.toBitVec_shiftLeft]
  show (x.toBitVec <<< ((nI n &&& 31).toBitVec.smod 32).toNat).getLsbD i = _
  rw [s_l n hn, BitVec.getLsbD_shiftLeft]
  rcases Nat.lt_or_ge i n with h | h
  · simp [h, Nat.not_le.mpr h]
  · simp [hi, h, Nat.not_lt.mpr h]
theorem b_sshr (n : Nat) (hn : n < 32) (x : Int32) {i : Nat} (hi : i < 32) : bt (x >>> (nI n &&& 31)) i = if n + i < 32 then bt x (n + i) else bt x 31 := by
  unfold bt
  rw [Int32.toBitVec_shiftRight]
  show (x.toBitVec.sshiftRight ((nI n &&& 31).toBitVec.smod 32).toNat).getLsbD i = _
  rw [s_l n hn, BitVec.getLsbD_sshiftRight, BitVec.msb_eq_getLsbD_last]
  simp [hi]
theorem tj_b1 : ∀ i, i < 32 → bt 1 i = decide (i = 0) := by decide +kernel
theorem tj_bs {f i : Nat} (hf : f < 32) (hi : i < 32) : bt ((1 : Int32) <<< (nI f &&& 31)) i = decide (i = f) := by
  rw [b_shl f hf 1 hi, tj_b1 (i - f) (by omega), ← Bool.decide_and]
  exact decide_eq_decide.mpr (by omega)
theorem tj_hi {x : Int32} {i : Nat} (h : bt x i = true) : i < 32 := by
  rcases Nat.lt_or_ge i 32 with h2 | h2
  · exact h2
  · rw [show bt x i = false from BitVec.getLsbD_of_ge _ _ h2] at h
    cases h
theorem tj_bit {R : Int32} {f : Nat} (hf : f < 32) : (R >>> (nI f &&& 31)) &&& 1 = 0 ↔ bt R f = false := by
  have h32 : (0 : Nat) < 32 := by decide
  constructor
  · intro h
    have e : bt ((R >>> (nI f &&& 31)) &&& 1) 0 = bt 0 0 := by rw [h]
    rw [b_and, b_sshr f hf R h32, tj_b1 0 h32, b_0, Nat.add_zero, if_pos hf] at e
    cases hb : bt R f with
    | false => rfl
    | true => rw [hb] at e; cases e
  · intro h
    apply b_ext
    intro i hi
    rw [b_and, b_0, tj_b1 i hi]
    by_cases h0 : i = 0
    · subst h0
      rw [b_sshr f hf R h32, Nat.add_zero, if_pos hf, h]
      rfl
    · rw [decide_eq_false h0, Bool.and_false]
/-- how many of the first p bits are set -/
def tj_pc (x : Int32) : Nat → Nat
  | 0 => 0
  | p + 1 => tj_pc x p + (bt x p).toNat
def tj_sub (x y : Int32) : Prop := ∀ i, bt x i = true → bt y i = true
theorem tj_pc_le (x : Int32) : ∀ p, tj_pc x p ≤ p := by
  intro p
  induction p with
  | zero => exact Nat.le_refl 0
  | succ p ih =>
    have a : (bt x p).toNat ≤ 1 := Bool.toNat_le _
    show tj_pc x p + (bt x p).toNat ≤ p + 1
    omega
theorem tj_tn {x y : Int32} (h : tj_sub x y) (p : Nat) : (bt x p).toNat ≤ (bt y p).toNat := by
  cases hx : bt x p with
  | false => exact Nat.zero_le _
  | true => rw [h p hx]; exact Nat.le_refl _
theorem tj_pc_mono {x y : Int32} (h : tj_sub x y) : ∀ p, tj_pc x p ≤ tj_pc y p := by
  intro p
  induction p with
  | zero => exact Nat.le_refl 0
  | succ p ih =>
    have a := tj_tn h p
    show tj_pc x p + (bt x p).toNat ≤ tj_pc y p + (bt y p).toNat
    omega
theorem tj_pc_lt {x y : Int32} (h : tj_sub x y) {i : Nat} (hx : bt x i = false) (hy : bt y i = true) : ∀ p, i < p → tj_pc x p < tj_pc y p := by
  intro p
  induction p with
  | zero => intro hi; omega
  | succ p ih =>
    intro hi
    show tj_pc x p + (bt x p).toNat < tj_pc y p + (bt y p).toNat
    rcases Nat.lt_or_ge i p with h1 | h1
    · have a := ih h1
      have b := tj_tn h p
      omega
    · have e : i = p := by omega
      subst e
      have a := tj_pc_mono h i
      rw [hx, hy]
      show tj_pc x i + 0 < tj_pc y i + 1
      omega
theorem tj_ne {x y : Int32} (hs : tj_sub x y) {p : Nat} (hp : ∀ i, bt y i = true → i < p) (hne : ¬ y = x) : tj_pc x p < tj_pc y p := by
  by_cases h : ∃ i, bt x i = false ∧ bt y i = true
  · obtain ⟨i, a, b⟩ := h
    exact tj_pc_lt hs a b p (hp i b)
  · refine absurd (b_ext (fun i _ => ?_)) hne
    refine Bool.eq_iff_iff.mpr ⟨fun hy => ?_, hs i⟩
    cases hx : bt x i with
    | true => rfl
    | false => exact absurd ⟨i, hx, hy⟩ h
theorem tj_sub_or (x y : Int32) : tj_sub x (x ||| y) := fun i h => by rw [b_or, h, Bool.true_or]
/-- one round over the first roads -/
def tj_rnd (t : Nat → Int32) (r : Int32) : Nat → Int32
  | 0 => r
  | e + 1 => if (t e &&& tj_rnd t r e) = 0 then tj_rnd t r e else tj_rnd t r e ||| t e
theorem tj_rnd1 (t : Nat → Int32) (r : Int32) (e : Nat) : tj_rnd t r (e + 1) = if (t e &&& tj_rnd t r e) = 0 then tj_rnd t r e else tj_rnd t r e ||| t e := rfl
/-- rounds over m roads -/
def tj_it (t : Nat → Int32) (m : Nat) (r : Int32) : Nat → Int32
  | 0 => r
  | j + 1 => tj_rnd t (tj_it t m r j) m
theorem tj_rnd_s (t : Nat → Int32) (r : Int32) (e : Nat) : tj_sub (tj_rnd t r e) (tj_rnd t r (e + 1)) := by
  rw [tj_rnd1]
  split
  · exact fun _ h => h
  · exact tj_sub_or _ _
theorem tj_rnd_sub (t : Nat → Int32) (r : Int32) (e d : Nat) : tj_sub (tj_rnd t r e) (tj_rnd t r (e + d)) := by
  induction d with
  | zero => exact fun _ h => h
  | succ d ih => exact fun i hi => tj_rnd_s t r (e + d) i (ih i hi)
theorem tj_rnd_0 (t : Nat → Int32) (r : Int32) (m : Nat) : tj_sub r (tj_rnd t r m) := by
  have h := tj_rnd_sub t r 0 m
  rw [Nat.zero_add] at h
  exact h
theorem tj_rnd_in {t : Nat → Int32} {p m : Nat} (ht : ∀ e, e < m → ∀ i, bt (t e) i = true → i < p) {r : Int32} (hr : ∀ i, bt r i = true → i < p) : ∀ e, e ≤ m → ∀ i, bt (tj_rnd t r e) i = true → i < p := by
  intro e
  induction e with
  | zero => exact fun _ => hr
  | succ e ih =>
    intro he i
    rw [tj_rnd1]
    split
    · exact ih (by omega) i
    · rw [b_or]
      intro h
      simp only [Bool.or_eq_true] at h
      rcases h with h | h
      · exact ih (by omega) i h
      · exact ht e (by omega) i h
theorem tj_it_in {t : Nat → Int32} {p m : Nat} (ht : ∀ e, e < m → ∀ i, bt (t e) i = true → i < p) {r : Int32} (hr : ∀ i, bt r i = true → i < p) : ∀ j i, bt (tj_it t m r j) i = true → i < p := by
  intro j
  induction j with
  | zero => exact hr
  | succ j ih => exact tj_rnd_in ht ih m (Nat.le_refl m)
theorem tj_fix_e {t : Nat → Int32} {r : Int32} {m : Nat} (h : tj_rnd t r m = r) (e : Nat) (he : e ≤ m) : tj_rnd t r e = r := by
  apply b_ext
  intro i _
  have a := tj_rnd_0 t r e i
  have b := tj_rnd_sub t r e (m - e) i
  rw [show e + (m - e) = m by omega, h] at b
  exact Bool.eq_iff_iff.mpr ⟨b, a⟩
theorem tj_fix {t : Nat → Int32} {r : Int32} {m : Nat} (h : tj_rnd t r m = r) {e : Nat} (he : e < m) (hne : ¬ (t e &&& r) = 0) : r ||| t e = r := by
  have a := tj_fix_e h (e + 1) he
  rw [tj_rnd1, tj_fix_e h e (by omega), if_neg hne] at a
  exact a
theorem tj_it_key {t : Nat → Int32} {p m : Nat} (ht : ∀ e, e < m → ∀ i, bt (t e) i = true → i < p) {r : Int32} (hr : ∀ i, bt r i = true → i < p) (j : Nat) : tj_rnd t (tj_it t m r j) m = tj_it t m r j ∨ tj_pc (tj_it t m r j) p < tj_pc (tj_it t m r (j + 1)) p := by
  by_cases hf : tj_rnd t (tj_it t m r j) m = tj_it t m r j
  · exact Or.inl hf
  · exact Or.inr (tj_ne (tj_rnd_0 t (tj_it t m r j) m) (tj_rnd_in ht (tj_it_in ht hr j) m (Nat.le_refl m)) hf)
theorem tj_it_ge {t : Nat → Int32} {p m : Nat} (ht : ∀ e, e < m → ∀ i, bt (t e) i = true → i < p) {r : Int32} (hr : ∀ i, bt r i = true → i < p) (j : Nat) : tj_rnd t (tj_it t m r j) m = tj_it t m r j ∨ j ≤ tj_pc (tj_it t m r j) p := by
  induction j with
  | zero => exact Or.inr (Nat.zero_le _)
  | succ j ih =>
    have same : tj_rnd t (tj_it t m r j) m = tj_it t m r j → tj_rnd t (tj_it t m r (j + 1)) m = tj_it t m r (j + 1) := by
      intro hf
      show tj_rnd t (tj_rnd t (tj_it t m r j) m) m = tj_rnd t (tj_it t m r j) m
      rw [hf, hf]
    rcases ih with ih | ih
    · exact Or.inl (same ih)
    · rcases tj_it_key ht hr j with hf | hf
      · exact Or.inl (same hf)
      · exact Or.inr (by omega)
theorem tj_it_fix {t : Nat → Int32} {p m : Nat} (ht : ∀ e, e < m → ∀ i, bt (t e) i = true → i < p) {r : Int32} (hr : ∀ i, bt r i = true → i < p) : tj_rnd t (tj_it t m r p) m = tj_it t m r p := by
  rcases tj_it_ge ht hr p with h | h
  · exact h
  · rcases tj_it_key ht hr p with hf | hf
    · exact hf
    · have a := tj_pc_le (tj_it t m r (p + 1)) p
      omega
theorem tj_it_more {t : Nat → Int32} {m j : Nat} {r : Int32} (h : tj_rnd t (tj_it t m r j) m = tj_it t m r j) (d : Nat) : tj_it t m r (j + d) = tj_it t m r j := by
  induction d with
  | zero => rfl
  | succ d ih =>
    show tj_rnd t (tj_it t m r (j + d)) m = _
    rw [ih, h]
theorem tj_it_c (t : Nat → Int32) (m : Nat) (r : Int32) (j : Nat) : tj_it t m r (j + 1) = tj_it t m (tj_rnd t r m) j := by
  induction j with
  | zero => rfl
  | succ j ih =>
    show tj_rnd t (tj_it t m r (j + 1)) m = tj_rnd t (tj_it t m (tj_rnd t r m) j) m
    rw [ih]
theorem tj_start {t : Nat → Int32} {r r' : Int32} (h : tj_rnd t r 1 = tj_rnd t r' 1) (e : Nat) : tj_rnd t r (e + 1) = tj_rnd t r' (e + 1) := by
  induction e with
  | zero => exact h
  | succ e ih => rw [tj_rnd1 t r (e + 1), tj_rnd1 t r' (e + 1), ih]
theorem tj_same {t : Nat → Int32} {p m : Nat} {s : Int32} (hm : 0 < m) (hp0 : 0 < p) (hp : p ≤ 7) (ht : ∀ e, e < m → ∀ i, bt (t e) i = true → i < p) (h0 : ¬ (t 0 &&& s) = 0) (h1 : s ||| t 0 = t 0) : tj_it t m (t 0) p = tj_it t m s 7 := by
  have a0 : tj_rnd t (t 0) 1 = t 0 := by
    show (if (t 0 &&& t 0) = 0 then t 0 else t 0 ||| t 0) = t 0
    rw [Int32.or_self]
    exact ite_self _
  have a1 : tj_rnd t s 1 = t 0 := by
    show (if (t 0 &&& s) = 0 then s else s ||| t 0) = t 0
    rw [if_neg h0, h1]
  have e1 : tj_rnd t (t 0) m = tj_rnd t s m := by
    obtain ⟨e, rfl⟩ : ∃ e, m = e + 1 := ⟨m - 1, by omega⟩
    exact tj_start (a0.trans a1.symm) e
  obtain ⟨q, rfl⟩ : ∃ q, p = q + 1 := ⟨p - 1, by omega⟩
  have fx := tj_it_fix ht (ht 0 hm)
  have e7 : tj_it t m s 7 = tj_it t m (tj_rnd t s m) 6 := tj_it_c t m s 6
  rw [tj_it_c t m (t 0) q] at fx
  rw [tj_it_c t m (t 0) q, e7, ← e1]
  have b := tj_it_more fx (6 - q)
  rw [show q + (6 - q) = 6 by omega] at b
  exact b.symm
/-- the places of a road with ends i and j -/
theorem tj_tb {i j : Nat} (hi : i < 32) (hj : j < 32) (k : Nat) : bt (((1 : Int32) <<< (nI i &&& 31)) ||| ((1 : Int32) <<< (nI j &&& 31))) k = true ↔ k = i ∨ k = j := by
  rw [b_or, Bool.or_eq_true]
  constructor
  · intro h
    rcases h with h | h
    · have a := tj_hi h
      rw [tj_bs hi a] at h
      exact Or.inl (of_decide_eq_true h)
    · have a := tj_hi h
      rw [tj_bs hj a] at h
      exact Or.inr (of_decide_eq_true h)
  · intro h
    rcases h with h | h
    · subst h
      rw [tj_bs hi hi]
      exact Or.inl (decide_eq_true rfl)
    · subst h
      rw [tj_bs hj hj]
      exact Or.inr (decide_eq_true rfl)
theorem tj_nz {x y : Int32} {k : Nat} (hx : bt x k = true) (hy : bt y k = true) : ¬ (x &&& y) = 0 := by
  intro h
  have e : bt (x &&& y) k = bt 0 k := by rw [h]
  rw [b_and, hx, hy, b_0] at e
  cases e
/-- both tests of a road say the same of a set of places that a round leaves as it is -/
theorem tj_test {t : Nat → Int32} {r : Int32} {m e i j : Nat} (h : tj_rnd t r m = r) (he : e < m) (hi : i < 32) (hj : j < 32) (ht : t e = ((1 : Int32) <<< (nI i &&& 31)) ||| ((1 : Int32) <<< (nI j &&& 31))) : (t e &&& r) = 0 ↔ (r >>> (nI i &&& 31)) &&& 1 = 0 := by
  have ti : bt (t e) i = true := by
    rw [ht]
    exact (tj_tb hi hj i).mpr (Or.inl rfl)
  rw [tj_bit hi]
  constructor
  · intro h0
    cases hr : bt r i with
    | false => rfl
    | true => exact absurd h0 (tj_nz ti hr)
  · intro hr
    by_cases h0 : (t e &&& r) = 0
    · exact h0
    · have a := tj_fix h he h0
      rw [← a, b_or, ti, Bool.or_true] at hr
      cases hr
end
section
/-- the picked roads' entries under xor -/
def tj_x (a : Nat → Int32) (s : Int32) : Nat → Int32
  | 0 => 0
  | e + 1 => if (s >>> (nI e &&& 31)) &&& 1 = 1 then tj_x a s e ^^^ a e else tj_x a s e
/-- the picked roads' sum -/
def tj_s (a : Nat → Int32) (s : Int32) : Nat → Int32
  | 0 => 0
  | e + 1 => if (s >>> (nI e &&& 31)) &&& 1 = 1 then tj_s a s e + a e else tj_s a s e
theorem tj_x_t {a : Nat → Int32} {s : Int32} {e : Nat} (h : (s >>> (nI e &&& 31)) &&& 1 = 1) : tj_x a s e ^^^ a e = tj_x a s (e + 1) := (if_pos h).symm
theorem tj_x_f {a : Nat → Int32} {s : Int32} {e : Nat} (h : ¬ (s >>> (nI e &&& 31)) &&& 1 = 1) : tj_x a s e = tj_x a s (e + 1) := (if_neg h).symm
theorem tj_s_t {a : Nat → Int32} {s : Int32} {e : Nat} (h : (s >>> (nI e &&& 31)) &&& 1 = 1) : tj_s a s e + a e = tj_s a s (e + 1) := (if_pos h).symm
theorem tj_s_f {a : Nat → Int32} {s : Int32} {e : Nat} (h : ¬ (s >>> (nI e &&& 31)) &&& 1 = 1) : tj_s a s e = tj_s a s (e + 1) := (if_neg h).symm
/-- one step of the search -/
def tj_stp (O S : Int32 → Int32) (P M N s : Int32) (q : Int32 × Int32) : Int32 × Int32 :=
  if (s &&& M) = M ∧ (s &&& N) = 0 ∧ O s = P then (if q.1 = -1 ∨ S s < q.2 then (s, S s) else q) else q
/-- the search over the first sets -/
def tj_bst (O S : Int32 → Int32) (P M N : Int32) : Nat → Int32 × Int32
  | 0 => (-1, 0)
  | s + 1 => tj_stp O S P M N (nI s) (tj_bst O S P M N s)
theorem tj_bst_1 (O S : Int32 → Int32) (P M N : Int32) (s : Nat) : tj_bst O S P M N (s + 1) = tj_stp O S P M N (nI s) (tj_bst O S P M N s) := rfl
theorem tj_bst_n {O S : Int32 → Int32} {P M N : Int32} {s : Nat} (h : ¬ ((nI s &&& M) = M ∧ (nI s &&& N) = 0 ∧ O (nI s) = P)) : tj_bst O S P M N (s + 1) = tj_bst O S P M N s := if_neg h
theorem tj_bst_t {O S : Int32 → Int32} {P M N : Int32} {s : Nat} (h : (nI s &&& M) = M ∧ (nI s &&& N) = 0 ∧ O (nI s) = P) (h2 : (tj_bst O S P M N s).1 = -1 ∨ S (nI s) < (tj_bst O S P M N s).2) : tj_bst O S P M N (s + 1) = (nI s, S (nI s)) := (if_pos h).trans (if_pos h2)
theorem tj_bst_k {O S : Int32 → Int32} {P M N : Int32} {s : Nat} (h : (nI s &&& M) = M ∧ (nI s &&& N) = 0 ∧ O (nI s) = P) (h2 : ¬ ((tj_bst O S P M N s).1 = -1 ∨ S (nI s) < (tj_bst O S P M N s).2)) : tj_bst O S P M N (s + 1) = tj_bst O S P M N s := (if_pos h).trans (if_neg h2)
theorem tj_bst_in (O S : Int32 → Int32) (P M N : Int32) (n : Nat) : (tj_bst O S P M N n).1 = -1 ∨ ∃ j, j < n ∧ (tj_bst O S P M N n).1 = nI j := by
  induction n with
  | zero => exact Or.inl rfl
  | succ n ih =>
    have up : (tj_bst O S P M N (n + 1)) = tj_bst O S P M N n → ((tj_bst O S P M N (n + 1)).1 = -1 ∨ ∃ j, j < n + 1 ∧ (tj_bst O S P M N (n + 1)).1 = nI j) := by
      intro e
      rw [e]
      rcases ih with ih | ⟨j, hj, ej⟩
      · exact Or.inl ih
      · exact Or.inr ⟨j, by omega, ej⟩
    by_cases h : (nI n &&& M) = M ∧ (nI n &&& N) = 0 ∧ O (nI n) = P
    · by_cases h2 : (tj_bst O S P M N n).1 = -1 ∨ S (nI n) < (tj_bst O S P M N n).2
      · exact Or.inr ⟨n, by omega, by rw [tj_bst_t h h2]⟩
      · exact up (tj_bst_k h h2)
    · exact up (tj_bst_n h)
theorem tj_nm1 {j : Nat} (h : j < 2 ^ 31) : ¬ nI j = -1 := by
  intro e
  have a : ¬ nI j < 0 := nI_pos h
  rw [e] at a
  exact a (by decide)
theorem tj_bst_neg (O S : Int32 → Int32) (P M N : Int32) {n : Nat} (hn : n ≤ 4096) : (tj_bst O S P M N n).1 < 0 ↔ (tj_bst O S P M N n).1 = -1 := by
  rcases tj_bst_in O S P M N n with h | ⟨j, hj, ej⟩
  · rw [h]
    exact ⟨fun _ => rfl, fun _ => by decide⟩
  · rw [ej]
    exact ⟨fun a => absurd a (nI_pos (by omega)), fun a => absurd a (tj_nm1 (by omega))⟩
/-- the weight of the set that was found -/
def tj_w (S : Int32 → Int32) (c : Int32) : Int32 := if c = -1 then -1000 else S c
theorem tj_w_t {S : Int32 → Int32} {c : Int32} (h : c = -1) : tj_w S c = -1000 := if_pos h
theorem tj_w_f {S : Int32 → Int32} {c : Int32} (h : ¬ c = -1) : tj_w S c = S c := if_neg h
/-- how many of the first sets are joins -/
def tj_cnt (O : Int32 → Int32) (w : Int32) : Nat → Int32
  | 0 => 0
  | s + 1 => if O (nI s) = w then tj_cnt O w s + 1 else tj_cnt O w s
theorem tj_cnt_t {O : Int32 → Int32} {w : Int32} {s : Nat} (h : O (nI s) = w) : tj_cnt O w s + 1 = tj_cnt O w (s + 1) := (if_pos h).symm
theorem tj_cnt_f {O : Int32 → Int32} {w : Int32} {s : Nat} (h : ¬ O (nI s) = w) : tj_cnt O w s = tj_cnt O w (s + 1) := (if_neg h).symm
theorem tj_pow : ∀ m, m < 13 → (1 : Int32) <<< (nI m &&& 31) = nI (2 ^ m) ∧ 2 ^ m ≤ 4096 ∧ 0 < 2 ^ m ∧ (1 : Int32) <<< (nI m &&& 31) - 1 = nI (2 ^ m - 1) := by decide +kernel
/-- an array whose entries from r to j have moved one down -/
def tj_shf (a : Nat → Int32) (r j : Nat) : Nat → Int32 := fun i => if r ≤ i ∧ i < j then a (i + 1) else a i
theorem tj_shf_i {a : Nat → Int32} {r j i : Nat} (h : r ≤ i ∧ i < j) : tj_shf a r j i = a (i + 1) := if_pos h
theorem tj_shf_o {a : Nat → Int32} {r j i : Nat} (h : ¬ (r ≤ i ∧ i < j)) : tj_shf a r j i = a i := if_neg h
theorem tj_shf_0 (a : Nat → Int32) (r : Nat) : tj_shf a r r = a := funext fun _ => if_neg (by omega)
theorem tj_shf_s (a : Nat → Int32) {r j : Nat} (h : r ≤ j) : upd (tj_shf a r j) j (tj_shf a r j (j + 1)) = tj_shf a r (j + 1) := by
  funext i
  by_cases e : i = j
  · subst e
    rw [pk_us, tj_shf_o (by omega), tj_shf_i (by omega)]
  · rw [pk_un e]
    by_cases h2 : r ≤ i ∧ i < j
    · rw [tj_shf_i h2, tj_shf_i (by omega)]
    · rw [tj_shf_o h2, tj_shf_o (by omega)]
/-- the places where a road has an odd number of ends, by its two ends -/
def tj_od (f g : Nat → Int32) : Nat → Int32 := fun e => ((1 : Int32) <<< (f e &&& 31)) ^^^ ((1 : Int32) <<< (g e &&& 31))
theorem tj_od_u (f g : Nat → Int32) (k : Nat) (x y : Int32) : upd (tj_od f g) k (((1 : Int32) <<< (x &&& 31)) ^^^ ((1 : Int32) <<< (y &&& 31))) = tj_od (upd f k x) (upd g k y) := by
  funext i
  by_cases e : i = k
  · subst e
    rw [pk_us]
    show _ = ((1 : Int32) <<< (upd f i x i &&& 31)) ^^^ ((1 : Int32) <<< (upd g i y i &&& 31))
    rw [pk_us, pk_us]
  · rw [pk_un e]
    show _ = ((1 : Int32) <<< (upd f k x i &&& 31)) ^^^ ((1 : Int32) <<< (upd g k y i &&& 31))
    rw [pk_un e, pk_un e]
    rfl
theorem tj_od_s (f g : Nat → Int32) (r j : Nat) : tj_shf (tj_od f g) r j = tj_od (tj_shf f r j) (tj_shf g r j) := by
  funext i
  show _ = ((1 : Int32) <<< (tj_shf f r j i &&& 31)) ^^^ ((1 : Int32) <<< (tj_shf g r j i &&& 31))
  by_cases h : r ≤ i ∧ i < j
  · rw [tj_shf_i h, tj_shf_i h, tj_shf_i h]
    rfl
  · rw [tj_shf_o h, tj_shf_o h, tj_shf_o h]
    rfl
/-- the ends of the first m roads are places, and t has the sets of them -/
def tj_ends (p m : Nat) (t f g : Nat → Int32) : Prop := ∀ e, e < m → ∃ i j : Nat, i < p ∧ j < p ∧ f e = nI i ∧ g e = nI j ∧ t e = ((1 : Int32) <<< (nI i &&& 31)) ||| ((1 : Int32) <<< (nI j &&& 31))
theorem tj_ends_0 {p : Nat} {t f g : Nat → Int32} : tj_ends p 0 t f g := fun _ h => absurd h (by omega)
theorem tj_ends_u {p m : Nat} {t f g : Nat → Int32} (h : tj_ends p m t f g) {i j : Nat} (hi : i < p) (hj : j < p) : tj_ends p (m + 1) (upd t m (((1 : Int32) <<< (nI i &&& 31)) ||| ((1 : Int32) <<< (nI j &&& 31)))) (upd f m (nI i)) (upd g m (nI j)) := by
  intro e he
  by_cases em : e = m
  · subst em
    exact ⟨i, j, hi, hj, pk_us, pk_us, pk_us⟩
  · rw [pk_un em, pk_un em, pk_un em]
    exact h e (by omega)
theorem tj_ends_s {p m r : Nat} {t f g : Nat → Int32} (h : tj_ends p (m + 1) t f g) : tj_ends p m (tj_shf t r m) (tj_shf f r m) (tj_shf g r m) := by
  intro e he
  by_cases h2 : r ≤ e ∧ e < m
  · rw [tj_shf_i h2, tj_shf_i h2, tj_shf_i h2]
    exact h (e + 1) (by omega)
  · rw [tj_shf_o h2, tj_shf_o h2, tj_shf_o h2]
    exact h e (by omega)
theorem tj_ends_in {p m : Nat} {t f g : Nat → Int32} (hp : p ≤ 7) (h : tj_ends p m t f g) : ∀ e, e < m → ∀ i, bt (t e) i = true → i < p := by
  intro e he i hb
  obtain ⟨a, b, ha, hb', _, _, et⟩ := h e he
  rw [et, tj_tb (by omega) (by omega)] at hb
  omega
/-- the component's rounds and the reference's end alike -/
theorem tj_joined {p m : Nat} {t f g : Nat → Int32} (hm : 0 < m) (hp0 : 0 < p) (hp : p ≤ 7) (h : tj_ends p m t f g) : tj_it t m (t 0) p = tj_it t m ((1 : Int32) <<< (f 0 &&& 31)) 7 ∧ ∀ e, e < m → ((t e &&& tj_it t m (t 0) p) = 0 ↔ (tj_it t m (t 0) p >>> (f e &&& 31)) &&& 1 = 0) := by
  have ht := tj_ends_in hp h
  constructor
  · obtain ⟨i, j, hi, hj, ef, eg, et⟩ := h 0 hm
    have i32 : i < 32 := by omega
    have j32 : j < 32 := by omega
    rw [ef]
    refine tj_same hm hp0 hp ht ?_ ?_
    · have b1 : bt (t 0) i = true := by
        rw [et]
        exact (tj_tb i32 j32 i).mpr (Or.inl rfl)
      exact tj_nz b1 (by rw [tj_bs i32 i32]; exact decide_eq_true rfl)
    · rw [et, ← Int32.or_assoc, Int32.or_self]
  · intro e he
    obtain ⟨i, j, hi, hj, ef, eg, et⟩ := h e he
    rw [ef]
    exact tj_test (tj_it_fix ht (ht 0 hm)) he (by omega) (by omega) et
/-- the odd places and the weight of a set of the first m roads -/
def tj_X (o : Nat → Int32) (m : Nat) (s : Int32) : Int32 := tj_x o s m
def tj_S (h : Nat → Int32) (m : Nat) (s : Int32) : Int32 := tj_s h s m
/-- what the postman's last step answers -/
def tj_post (o h : Nat → Int32) (m : Nat) : Int32 := tj_w (tj_S h m) (tj_bst (tj_X o m) (tj_S h m) (tj_X o m (nI (2 ^ m - 1))) 0 0 (2 ^ m)).1
theorem tj_post_0 (o h : Nat → Int32) : tj_post o h 0 = 0 := by
  have e : tj_bst (tj_X o 0) (tj_S h 0) (tj_X o 0 (nI (2 ^ 0 - 1))) 0 0 (0 + 1) = (nI 0, tj_S h 0 (nI 0)) := tj_bst_t ⟨by decide, by decide, rfl⟩ (Or.inl rfl)
  show tj_w (tj_S h 0) (tj_bst (tj_X o 0) (tj_S h 0) (tj_X o 0 (nI (2 ^ 0 - 1))) 0 0 (0 + 1)).1 = 0
  rw [e]
  exact (tj_w_f (tj_nm1 (by decide))).trans rfl
end
section
theorem tj_10 : ¬ (1 : Int32) = 0 := by decide
theorem tx_odd_l {post : Int32 → Prop} {p m : Nat} {w s : Int32} {t o h : Nat → Int32} (hm : m ≤ 12) (hp : post (tj_X o m s)) : ∀ d e, e + d = m → wX_oddEnds_4 post s (nI p) (nI m) w t o h (d + 1) (tj_x o s e) (nI e) := by
  intro d
  induction d with
  | zero =>
    intro e he
    obtain rfl : e = m := by omega
    exact br_t (nI_le (Nat.le_refl _) (by omega)) hp
  | succ d ih =>
    intro e he
    have c : ¬ nI m ≤ nI e := nI_ge (by omega) (by omega)
    have hi : vp_in (nI e) 12 := vp_in_nI (by omega) (by omega)
    have hc : (nI e).toNatClampNeg = e := nI_clamp (by omega)
    have q := ih (e + 1) (by omega)
    refine br_f c (br_c (fun hb => ⟨hi, nm_r (e' := tj_x o s (e + 1)) ?_ (nm_r (nI_1 e) q)⟩) (fun hb => nm_r (nI_1 e) ?_))
    · rw [hc]
      exact tj_x_t hb
    · rw [← tj_x_f hb] at q
      exact q
theorem tx_odd {post : Int32 → Prop} {p m : Nat} {w s : Int32} {t o h : Nat → Int32} (hm : m ≤ 12) (hp : post (tj_X o m s)) : wpX_oddEnds post (nI p, nI m, w, t, o, h) s := ⟨m + 1, tx_odd_l hm hp m 0 (by omega)⟩
theorem tx_sum_l {post : Int32 → Prop} {p m : Nat} {w s : Int32} {t o h : Nat → Int32} (hm : m ≤ 12) (hp : post (tj_S h m s)) : ∀ d e, e + d = m → wX_weightOf_4 post s (nI p) (nI m) w t o h (d + 1) (tj_s h s e) (nI e) := by
  intro d
  induction d with
  | zero =>
    intro e he
    obtain rfl : e = m := by omega
    exact br_t (nI_le (Nat.le_refl _) (by omega)) hp
  | succ d ih =>
    intro e he
    have c : ¬ nI m ≤ nI e := nI_ge (by omega) (by omega)
    have hi : vp_in (nI e) 12 := vp_in_nI (by omega) (by omega)
    have hc : (nI e).toNatClampNeg = e := nI_clamp (by omega)
    have q := ih (e + 1) (by omega)
    refine br_f c (br_c (fun hb => ⟨hi, nm_r (e' := tj_s h s (e + 1)) ?_ (nm_r (nI_1 e) q)⟩) (fun hb => nm_r (nI_1 e) ?_))
    · rw [hc]
      exact tj_s_t hb
    · rw [← tj_s_f hb] at q
      exact q
theorem tx_sum {post : Int32 → Prop} {p m : Nat} {w s : Int32} {t o h : Nat → Int32} (hm : m ≤ 12) (hp : post (tj_S h m s)) : wpX_weightOf post (nI p, nI m, w, t, o, h) s := ⟨m + 1, tx_sum_l hm hp m 0 (by omega)⟩
theorem tx_all {post : Int32 → Prop} {p m : Nat} {w : Int32} {t o h : Nat → Int32} (hm : m ≤ 12) (hp : post (nI (2 ^ m - 1))) : wpX_allRoads post (nI p, nI m, w, t, o, h) := by
  have e := (tj_pow m (by omega)).2.2.2
  show post ((1 : Int32) <<< (nI m &&& 31) - 1)
  rw [e]
  exact hp
theorem tx_skip {post : Int32 → Prop} {J : Int32 → Int32 → Int32 → Prop} {P M N A a b : Int32} {s p m : Nat} {w : Int32} {t o h : Nat → Int32} (hJ : J a b (nI (s + 1))) : wX_bestJoin_41 post J P M N A a b (nI s) (nI p) (nI m) w t o h := by
  unfold wX_bestJoin_41 wX_bestJoin_42
  exact br_t rfl (nm_r (nI_1 s) hJ)
theorem tx_take {post : Int32 → Prop} {J : Int32 → Int32 → Int32 → Prop} {P M N A : Int32} {s p m : Nat} {w : Int32} {t o h : Nat → Int32} (hm : m ≤ 12) (h1 : (nI s &&& M) = M) (h2 : (nI s &&& N) = 0)
    (hJ : J (tj_bst (tj_X o m) (tj_S h m) P M N (s + 1)).1 (tj_bst (tj_X o m) (tj_S h m) P M N (s + 1)).2 (nI (s + 1))) :
    wX_bestJoin_42 post J P M N A (tj_bst (tj_X o m) (tj_S h m) P M N s).1 (tj_bst (tj_X o m) (tj_S h m) P M N s).2 (nI s) 1 (nI p) (nI m) w t o h := by
  unfold wX_bestJoin_42
  refine br_f (by decide) (tx_odd hm (br_c (fun h3 => tx_sum hm (br_c (fun h4 => nm_r (nI_1 s) ?_) (fun h4 => br_c (fun h5 => nm_r (nI_1 s) ?_) (fun h5 => nm_r (nI_1 s) ?_)))) (fun h3 => nm_r (nI_1 s) ?_)))
  · rw [tj_bst_t ⟨h1, h2, h3⟩ (Or.inl h4)] at hJ
    exact hJ
  · rw [tj_bst_k ⟨h1, h2, h3⟩ (fun z => z.elim h4 (fun z => (Int32.not_lt.mpr h5) z))] at hJ
    exact hJ
  · rw [tj_bst_t ⟨h1, h2, h3⟩ (Or.inr (Int32.not_le.mp h5))] at hJ
    exact hJ
  · rw [tj_bst_n (fun z => h3 z.2.2)] at hJ
    exact hJ
theorem tx_best_l {post : Int32 → Prop} {p m n : Nat} {w P M N : Int32} {t o h : Nat → Int32} (hm : m ≤ 12) (hn0 : 0 < n) (hn : n ≤ 4096) (hp : post (tj_bst (tj_X o m) (tj_S h m) P M N n).1) : ∀ d s, s + d = n → wX_bestJoin_15 post P M N (nI (n - 1)) (nI p) (nI m) w t o h (d + 1) (tj_bst (tj_X o m) (tj_S h m) P M N s).1 (tj_bst (tj_X o m) (tj_S h m) P M N s).2 (nI s) := by
  intro d
  induction d with
  | zero =>
    intro s hs
    obtain rfl : s = n := by omega
    exact br_t (nI_lt (by omega) (by omega)) hp
  | succ d ih =>
    intro s hs
    have c : ¬ nI (n - 1) < nI s := nI_nlt (by omega) (by omega)
    have q := ih (s + 1) (by omega)
    refine br_f c (br_c (fun h1 => br_c (fun h2 => tx_take hm h1 h2 q) (fun h2 => tx_skip ?_)) (fun h1 => tx_skip ?_))
    · rw [tj_bst_n (fun z => h2 z.2.1)] at q
      exact q
    · rw [tj_bst_n (fun z => h1 z.1)] at q
      exact q
theorem tx_best {post : Int32 → Prop} {p m : Nat} {w P M N : Int32} {t o h : Nat → Int32} (hm : m ≤ 12) (hp : post (tj_bst (tj_X o m) (tj_S h m) P M N (2 ^ m)).1) : wpX_bestJoin post (nI p, nI m, w, t, o, h) P M N := by
  have k := tj_pow m (by omega)
  unfold wpX_bestJoin
  dsimp only
  refine tx_all hm ⟨2 ^ m + 1, tx_best_l hm k.2.2.1 k.2.1 hp (2 ^ m) 0 (by omega)⟩
theorem tx_bw {post : Int32 → Prop} {p m : Nat} {w P M N : Int32} {t o h : Nat → Int32} (hm : m ≤ 12) (hp : post (tj_w (tj_S h m) (tj_bst (tj_X o m) (tj_S h m) P M N (2 ^ m)).1)) : wpX_bestWeight post (nI p, nI m, w, t, o, h) P M N := by
  unfold wpX_bestWeight
  dsimp only
  refine tx_best hm (br_c (fun e => ?_) (fun e => tx_sum hm ?_))
  · rw [tj_w_t e] at hp
    exact hp
  · rw [tj_w_f e] at hp
    exact hp
theorem tx_joins_l {post : Int32 → Prop} {p m n : Nat} {w : Int32} {t o h : Nat → Int32} (hm : m ≤ 12) (hn0 : 0 < n) (hn : n ≤ 4096) (hp : post (tj_cnt (tj_X o m) w n)) : ∀ d s, s + d = n → wX_joins_9 post (nI (n - 1)) (nI p) (nI m) w t o h (d + 1) (tj_cnt (tj_X o m) w s) (nI s) := by
  intro d
  induction d with
  | zero =>
    intro s hs
    obtain rfl : s = n := by omega
    exact br_t (nI_lt (by omega) (by omega)) hp
  | succ d ih =>
    intro s hs
    have c : ¬ nI (n - 1) < nI s := nI_nlt (by omega) (by omega)
    have q := ih (s + 1) (by omega)
    refine br_f c (tx_odd hm (br_c (fun h1 => nm_r (tj_cnt_t h1) (nm_r (nI_1 s) q)) (fun h1 => nm_r (nI_1 s) ?_)))
    rw [← tj_cnt_f h1] at q
    exact q
theorem tx_joins {post : Int32 → Prop} {p m : Nat} {w : Int32} {t o h : Nat → Int32} (hm : m ≤ 12) (hp : post (tj_cnt (tj_X o m) w (2 ^ m))) : wpX_joins post (nI p, nI m, w, t, o, h) := by
  have k := tj_pow m (by omega)
  unfold wpX_joins
  dsimp only
  exact tx_all hm ⟨2 ^ m + 1, tx_joins_l hm k.2.2.1 k.2.1 hp (2 ^ m) 0 (by omega)⟩
theorem tx_oddPl {post : Int32 → Prop} {p m : Nat} {w : Int32} {t o h : Nat → Int32} (hm : m ≤ 12) (hp : post (tj_X o m (nI (2 ^ m - 1)))) : wpX_oddPlaces post (nI p, nI m, w, t, o, h) := by
  unfold wpX_oddPlaces
  dsimp only
  exact tx_all hm (tx_odd hm hp)
theorem tx_neg1 {post : Int32 → Prop} {p m : Nat} {w : Int32} {t o h : Nat → Int32} (hm : m ≤ 12) (hp : post 1) : ∀ d e, e + d = m → (∃ k, e ≤ k ∧ k < m ∧ ¬ 0 ≤ h k) → wX_hasNegativeWeight_2 post (nI p) (nI m) w t o h (d + 1) (nI e) := by
  intro d
  induction d with
  | zero =>
    intro e he hk
    obtain ⟨k, k1, k2, _⟩ := hk
    omega
  | succ d ih =>
    intro e he hk
    have c : ¬ nI m ≤ nI e := nI_ge (by omega) (by omega)
    have hi : vp_in (nI e) 12 := vp_in_nI (by omega) (by omega)
    have hc : (nI e).toNatClampNeg = e := nI_clamp (by omega)
    refine br_f c ⟨hi, br_c (fun h1 => nm_r (nI_1 e) (ih (e + 1) (by omega) ?_)) (fun _ => hp)⟩
    rw [hc] at h1
    obtain ⟨k, k1, k2, k3⟩ := hk
    have ne : ¬ k = e := fun z => k3 (z ▸ h1)
    exact ⟨k, by omega, k2, k3⟩
theorem tx_neg0 {post : Int32 → Prop} {p m : Nat} {w : Int32} {t o h : Nat → Int32} (hm : m ≤ 12) (ha : ∀ e, e < m → 0 ≤ h e) (hp : post 0) : ∀ d e, e + d = m → wX_hasNegativeWeight_2 post (nI p) (nI m) w t o h (d + 1) (nI e) := by
  intro d
  induction d with
  | zero =>
    intro e he
    obtain rfl : e = m := by omega
    exact br_t (nI_le (Nat.le_refl _) (by omega)) hp
  | succ d ih =>
    intro e he
    have c : ¬ nI m ≤ nI e := nI_ge (by omega) (by omega)
    have hi : vp_in (nI e) 12 := vp_in_nI (by omega) (by omega)
    have hc : (nI e).toNatClampNeg = e := nI_clamp (by omega)
    refine br_f c ⟨hi, br_t ?_ (nm_r (nI_1 e) (ih (e + 1) (by omega)))⟩
    rw [hc]
    exact ha e (by omega)
theorem tx_rnd {post : Int32 → Prop} {J : Int32 → Int32 → Prop} {p m k : Nat} {w r : Int32} {t o h : Nat → Int32} (hm : m ≤ 12) (hJ : J (tj_rnd t r m) (nI (k + 1))) : ∀ d e, e + d = m → wX_reachedFromFirstRoad_19 post J (nI k) (nI p) (nI m) w t o h (d + 1) (tj_rnd t r e) (nI e) := by
  intro d
  induction d with
  | zero =>
    intro e he
    obtain rfl : e = m := by omega
    exact br_t (nI_le (Nat.le_refl _) (by omega)) (nm_r (nI_1 k) hJ)
  | succ d ih =>
    intro e he
    have c : ¬ nI m ≤ nI e := nI_ge (by omega) (by omega)
    have hi : vp_in (nI e) 12 := vp_in_nI (by omega) (by omega)
    have hc : (nI e).toNatClampNeg = e := nI_clamp (by omega)
    have q := ih (e + 1) (by omega)
    refine br_f c ⟨hi, br_c (fun h1 => nm_r (nI_1 e) ?_) (fun h1 => ⟨hi, nm_r (e' := tj_rnd t r (e + 1)) ?_ (nm_r (nI_1 e) q)⟩)⟩
    · rw [hc] at h1
      rw [tj_rnd1, if_pos h1] at q
      exact q
    · rw [hc] at h1 ⊢
      rw [tj_rnd1, if_neg h1]
theorem tx_rnds {post : Int32 → Prop} {p m : Nat} {w r : Int32} {t o h : Nat → Int32} (hp7 : p ≤ 7) (hm : m ≤ 12) (hp : post (tj_it t m r p)) : ∀ d j, j + d = p → wX_reachedFromFirstRoad_9 post (nI p) (nI m) w t o h (d + 1) (tj_it t m r j) (nI j) := by
  intro d
  induction d with
  | zero =>
    intro j hj
    obtain rfl : j = p := by omega
    exact br_t (nI_le (Nat.le_refl _) (by omega)) hp
  | succ d ih =>
    intro j hj
    have c : ¬ nI p ≤ nI j := nI_ge (by omega) (by omega)
    exact br_f c ⟨m + 1, tx_rnd (r := tj_it t m r j) hm (ih (j + 1) (by omega)) m 0 (by omega)⟩
theorem tx_reach {post : Int32 → Prop} {p m : Nat} {w : Int32} {t o h : Nat → Int32} (hp7 : p ≤ 7) (hm : m ≤ 12) (hp : post (tj_it t m (t 0) p)) : wpX_reachedFromFirstRoad post (nI p, nI m, w, t, o, h) := nm_e ⟨p + 1, tx_rnds hp7 hm hp p 0 (by omega)⟩
theorem tx_aj0 {post : Int32 → Prop} {p m : Nat} {w R : Int32} {t o h : Nat → Int32} (hm : m ≤ 12) (hp : post 0) : ∀ d e, e + d = m → (∃ k, e ≤ k ∧ k < m ∧ (t k &&& R) = 0) → wX_allJoined_7 post R (nI p) (nI m) w t o h (d + 1) (nI e) := by
  intro d
  induction d with
  | zero =>
    intro e he hk
    obtain ⟨k, k1, k2, _⟩ := hk
    omega
  | succ d ih =>
    intro e he hk
    have c : ¬ nI m ≤ nI e := nI_ge (by omega) (by omega)
    have hi : vp_in (nI e) 12 := vp_in_nI (by omega) (by omega)
    have hc : (nI e).toNatClampNeg = e := nI_clamp (by omega)
    refine br_f c ⟨hi, br_c (fun _ => hp) (fun h1 => nm_r (nI_1 e) (ih (e + 1) (by omega) ?_))⟩
    rw [hc] at h1
    obtain ⟨k, k1, k2, k3⟩ := hk
    have ne : ¬ k = e := fun z => h1 (z ▸ k3)
    exact ⟨k, by omega, k2, k3⟩
theorem tx_aj1 {post : Int32 → Prop} {p m : Nat} {w R : Int32} {t o h : Nat → Int32} (hm : m ≤ 12) (ha : ∀ e, e < m → ¬ (t e &&& R) = 0) (hp : post 1) : ∀ d e, e + d = m → wX_allJoined_7 post R (nI p) (nI m) w t o h (d + 1) (nI e) := by
  intro d
  induction d with
  | zero =>
    intro e he
    obtain rfl : e = m := by omega
    exact br_t (nI_le (Nat.le_refl _) (by omega)) hp
  | succ d ih =>
    intro e he
    have c : ¬ nI m ≤ nI e := nI_ge (by omega) (by omega)
    have hi : vp_in (nI e) 12 := vp_in_nI (by omega) (by omega)
    have hc : (nI e).toNatClampNeg = e := nI_clamp (by omega)
    refine br_f c ⟨hi, br_f ?_ (nm_r (nI_1 e) (ih (e + 1) (by omega)))⟩
    rw [hc]
    exact ha e (by omega)
theorem tx_pm1 {post : Int32 → Prop} {p m : Nat} {w : Int32} {t o h : Nat → Int32} (hm : m ≤ 12) (hn : ∃ k, k < m ∧ ¬ 0 ≤ h k) (hp : post (-1)) : wpX_postman post (nI p, nI m, w, t, o, h) := by
  obtain ⟨k, k1, k2⟩ := hn
  unfold wpX_postman wpX_hasNegativeWeight
  dsimp only
  exact ⟨m + 1, tx_neg1 hm (br_f tj_10 hp) m 0 (by omega) ⟨k, by omega, k1, k2⟩⟩
theorem tx_pm2 {post : Int32 → Prop} {p m : Nat} {w : Int32} {t o h : Nat → Int32} (hp7 : p ≤ 7) (hm : m ≤ 12) (ha : ∀ e, e < m → 0 ≤ h e) (hn : ∃ k, k < m ∧ (t k &&& tj_it t m (t 0) p) = 0) (hp : post (-2)) : wpX_postman post (nI p, nI m, w, t, o, h) := by
  obtain ⟨k, k1, k2⟩ := hn
  unfold wpX_postman wpX_hasNegativeWeight wpX_allJoined
  dsimp only
  exact ⟨m + 1, tx_neg0 hm ha (br_t rfl (tx_reach hp7 hm ⟨m + 1, tx_aj0 hm (br_t rfl hp) m 0 (by omega) ⟨k, by omega, k1, k2⟩⟩)) m 0 (by omega)⟩
theorem tx_pmA {post : Int32 → Prop} {p m : Nat} {w : Int32} {t o h : Nat → Int32} (hm : m ≤ 12) (hp : post (tj_post o h m)) : wpX_oddPlaces (fun r => wpX_bestWeight (fun r2 => post r2) (nI p, nI m, w, t, o, h) r 0 0) (nI p, nI m, w, t, o, h) := by
  refine tx_oddPl hm ?_
  refine tx_bw hm ?_
  exact hp
theorem tx_pm3 {post : Int32 → Prop} {p m : Nat} {w : Int32} {t o h : Nat → Int32} (hp7 : p ≤ 7) (hm : m ≤ 12) (ha : ∀ e, e < m → 0 ≤ h e) (hj : ∀ e, e < m → ¬ (t e &&& tj_it t m (t 0) p) = 0) (hp : post (tj_post o h m)) : wpX_postman post (nI p, nI m, w, t, o, h) := by
  unfold wpX_postman wpX_hasNegativeWeight wpX_allJoined
  dsimp only
  exact ⟨m + 1, tx_neg0 hm ha (br_t rfl (tx_reach hp7 hm ⟨m + 1, tx_aj1 hm hj (br_f tj_10 (tx_pmA hm hp)) m 0 (by omega)⟩)) m 0 (by omega)⟩
theorem tx_rem {post : Int32 → SX → Prop} {p m r : Nat} {w : Int32} {t o h : Nat → Int32} (hm : m + 1 ≤ 12) (hp : post (nI m) (nI p, nI m, w, tj_shf t r m, tj_shf o r m, tj_shf h r m)) : ∀ d e, e + d = m → r ≤ e → wX_remove_12 post (nI p) (nI (m + 1)) w (d + 1) (nI e) (tj_shf t r e) (tj_shf o r e) (tj_shf h r e) := by
  intro d
  induction d with
  | zero =>
    intro e he hr
    obtain rfl : e = m := by omega
    have c : nI (e + 1) ≤ nI e + 1 := by
      rw [nI_1]
      exact nI_le (Nat.le_refl _) (by omega)
    exact br_t c (nm_r (nI_pred e) hp)
  | succ d ih =>
    intro e he hr
    have c : ¬ nI (m + 1) ≤ nI e + 1 := by
      rw [nI_1]
      exact nI_ge (by omega) (by omega)
    have hi : vp_in (nI e) 12 := vp_in_nI (by omega) (by omega)
    have hi1 : vp_in (nI e + 1) 12 := by
      rw [nI_1]
      exact vp_in_nI (by omega) (by omega)
    have hc : (nI e).toNatClampNeg = e := nI_clamp (by omega)
    have hc1 : (nI e + 1).toNatClampNeg = e + 1 := by
      rw [nI_1]
      exact nI_clamp (by omega)
    have st : ∀ a : Nat → Int32, upd (tj_shf a r e) (nI e).toNatClampNeg (tj_shf a r e (nI e + 1).toNatClampNeg) = tj_shf a r (e + 1) := by
      intro a
      rw [hc, hc1]
      exact tj_shf_s a hr
    exact br_f c ⟨hi1, hi, nm_r (st t) ⟨hi1, hi, nm_r (st o) ⟨hi1, hi, nm_r (st h) (nm_r (nI_1 e) (ih (e + 1) (by omega) (by omega)))⟩⟩⟩
theorem tx_pl1 {post : Int32 → Prop} {p i : Nat} {n w : Int32} {t o h : Nat → Int32} (hp7 : p ≤ 7) (hi : i < p) (hp : post 1) : wpX_isPlace post (nI p, n, w, t, o, h) (nI i) := br_f (nI_pos (by omega)) (br_f (nI_ge hi (by omega)) hp)
theorem tx_pl0 {post : Int32 → Prop} {p : Nat} {n w x : Int32} {t o h : Nat → Int32} (hx : x < 0 ∨ nI p ≤ x) (hp : post 0) : wpX_isPlace post (nI p, n, w, t, o, h) x := br_c (fun _ => hp) (fun h1 => br_t (hx.resolve_left h1) hp)
theorem tx_rd1 {post : Int32 → Prop} {m i : Nat} {n w : Int32} {t o h : Nat → Int32} (hm : m ≤ 12) (hi : i < m) (hp : post 1) : wpX_isRoad post (n, nI m, w, t, o, h) (nI i) := br_f (nI_pos (by omega)) (br_f (nI_ge hi (by omega)) hp)
theorem tx_rd0 {post : Int32 → Prop} {m : Nat} {n w x : Int32} {t o h : Nat → Int32} (hx : x < 0 ∨ nI m ≤ x) (hp : post 0) : wpX_isRoad post (n, nI m, w, t, o, h) x := br_c (fun _ => hp) (fun h1 => br_t (hx.resolve_left h1) hp)
theorem tx_wt1 {post : Int32 → Prop} {x : Int32} (h1 : ¬ x < -9) (h2 : ¬ 20 < x) (hp : post 1) : wpX_isWeight post x := br_f h1 (br_f h2 hp)
theorem tx_wt0 {post : Int32 → Prop} {x : Int32} (hx : x < -9 ∨ 20 < x) (hp : post 0) : wpX_isWeight post x := br_c (fun _ => hp) (fun h1 => br_t (hx.resolve_left h1) hp)
theorem tx_rem0 {post : Int32 → SX → Prop} {p m r : Nat} {w : Int32} {t o h : Nat → Int32} (hm : m + 1 ≤ 12) (hr : r ≤ m) (hp : post (nI m) (nI p, nI m, w, tj_shf t r m, tj_shf o r m, tj_shf h r m)) : ∃ n, wX_remove_12 post (nI p) (nI (m + 1)) w n (nI r) t o h := by
  have z := tx_rem hm hp (m - r) r (by omega) (Nat.le_refl r)
  rw [tj_shf_0, tj_shf_0, tj_shf_0] at z
  exact ⟨_, z⟩
end
section
theorem ty_odd_l {post : Int32 → Prop} {p m : Nat} {w s : Int32} {f g h : Nat → Int32} (hm : m ≤ 12) (hp : post (tj_X (tj_od f g) m s)) : ∀ d e, e + d = m → wY_odd_4 post s (nI p) (nI m) w f g h (d + 1) (tj_x (tj_od f g) s e) (nI e) := by
  intro d
  induction d with
  | zero =>
    intro e he
    obtain rfl : e = m := by omega
    exact br_t (nI_le (Nat.le_refl _) (by omega)) hp
  | succ d ih =>
    intro e he
    have c : ¬ nI m ≤ nI e := nI_ge (by omega) (by omega)
    have c12 : ¬ (12 : Int32) ≤ nI e := nI_ge (b := 12) (by omega) (by decide)
    have hi : vp_in (nI e) 12 := vp_in_nI (by omega) (by omega)
    have hc : (nI e).toNatClampNeg = e := nI_clamp (by omega)
    have q := ih (e + 1) (by omega)
    refine br_f c (br_f c12 (br_c (fun hb => ⟨hi, hi, nm_r (e' := tj_x (tj_od f g) s (e + 1)) ?_ (nm_r (nI_1 e) q)⟩) (fun hb => nm_r (nI_1 e) ?_)))
    · rw [hc, Int32.xor_assoc]
      exact tj_x_t hb
    · rw [← tj_x_f hb] at q
      exact q
theorem ty_odd {post : Int32 → Prop} {p m : Nat} {w s : Int32} {f g h : Nat → Int32} (hm : m ≤ 12) (hp : post (tj_X (tj_od f g) m s)) : wpY_odd post (nI p, nI m, w, f, g, h) s := ⟨m + 1, ty_odd_l hm hp m 0 (by omega)⟩
theorem ty_sum_l {post : Int32 → Prop} {p m : Nat} {w s : Int32} {f g h : Nat → Int32} (hm : m ≤ 12) (hp : post (tj_S h m s)) : ∀ d e, e + d = m → wY_sum_4 post s (nI p) (nI m) w f g h (d + 1) (tj_s h s e) (nI e) := by
  intro d
  induction d with
  | zero =>
    intro e he
    obtain rfl : e = m := by omega
    exact br_t (nI_le (Nat.le_refl _) (by omega)) hp
  | succ d ih =>
    intro e he
    have c : ¬ nI m ≤ nI e := nI_ge (by omega) (by omega)
    have c12 : ¬ (12 : Int32) ≤ nI e := nI_ge (b := 12) (by omega) (by decide)
    have hi : vp_in (nI e) 12 := vp_in_nI (by omega) (by omega)
    have hc : (nI e).toNatClampNeg = e := nI_clamp (by omega)
    have q := ih (e + 1) (by omega)
    refine br_f c (br_f c12 (br_c (fun hb => ⟨hi, nm_r (e' := tj_s h s (e + 1)) ?_ (nm_r (nI_1 e) q)⟩) (fun hb => nm_r (nI_1 e) ?_)))
    · rw [hc]
      exact tj_s_t hb
    · rw [← tj_s_f hb] at q
      exact q
theorem ty_sum {post : Int32 → Prop} {p m : Nat} {w s : Int32} {f g h : Nat → Int32} (hm : m ≤ 12) (hp : post (tj_S h m s)) : wpY_sum post (nI p, nI m, w, f, g, h) s := ⟨m + 1, ty_sum_l hm hp m 0 (by omega)⟩
theorem ty_best_l {post : Int32 → Prop} {p m : Nat} {w P M N : Int32} {f g h : Nat → Int32} (hm : m ≤ 12) (hp : post (tj_bst (tj_X (tj_od f g) m) (tj_S h m) P M N (2 ^ m)).1) : ∀ d s, s + d = 2 ^ m → wY_search_9 post P M N (nI p) (nI m) w f g h (d + 1) (tj_bst (tj_X (tj_od f g) m) (tj_S h m) P M N s).1 (tj_bst (tj_X (tj_od f g) m) (tj_S h m) P M N s).2 (nI s) := by
  have k := tj_pow m (by omega)
  have k1 := k.1
  have k2 := k.2.1
  intro d
  induction d with
  | zero =>
    intro s hs
    have e : s = 2 ^ m := by omega
    have c : (1 : Int32) <<< (nI m &&& 31) ≤ nI s := by
      rw [k1, e]
      exact nI_le (Nat.le_refl _) (by omega)
    rw [e] at c ⊢
    exact br_t c hp
  | succ d ih =>
    intro s hs
    have c : ¬ (1 : Int32) <<< (nI m &&& 31) ≤ nI s := by
      rw [k1]
      exact nI_ge (by omega) (by omega)
    have q := ih (s + 1) (by omega)
    have ng := tj_bst_neg (tj_X (tj_od f g) m) (tj_S h m) P M N (n := s) (by omega)
    refine br_f c (br_c (fun h1 => br_c (fun h2 => ty_odd hm (br_c (fun h3 => ty_sum hm (br_c (fun h4 => nm_r (nI_1 s) ?_) (fun h4 => br_c (fun h5 => nm_r (nI_1 s) ?_) (fun h5 => nm_r (nI_1 s) ?_)))) (fun h3 => nm_r (nI_1 s) ?_))) (fun h2 => nm_r (nI_1 s) ?_)) (fun h1 => nm_r (nI_1 s) ?_))
    · rw [tj_bst_t ⟨h1, h2, h3⟩ (Or.inl (ng.mp h4))] at q
      exact q
    · rw [tj_bst_k ⟨h1, h2, h3⟩ (fun z => z.elim (fun z => h4 (ng.mpr z)) (fun z => (Int32.not_lt.mpr h5) z))] at q
      exact q
    · rw [tj_bst_t ⟨h1, h2, h3⟩ (Or.inr (Int32.not_le.mp h5))] at q
      exact q
    · rw [tj_bst_n (fun z => h3 z.2.2)] at q
      exact q
    · rw [tj_bst_n (fun z => h2 z.2.1)] at q
      exact q
    · rw [tj_bst_n (fun z => h1 z.1)] at q
      exact q
theorem ty_best {post : Int32 → Prop} {p m : Nat} {w P M N : Int32} {f g h : Nat → Int32} (hm : m ≤ 12) (hp : post (tj_bst (tj_X (tj_od f g) m) (tj_S h m) P M N (2 ^ m)).1) : wpY_search post (nI p, nI m, w, f, g, h) P M N := ⟨2 ^ m + 1, ty_best_l hm hp (2 ^ m) 0 (by omega)⟩
theorem ty_w {post : Int32 → Prop} {p m : Nat} {w P M N : Int32} {f g h : Nat → Int32} (hm : m ≤ 12) (hp : post (tj_w (tj_S h m) (tj_bst (tj_X (tj_od f g) m) (tj_S h m) P M N (2 ^ m)).1)) : wpY_weightOf post (nI p, nI m, w, f, g, h) (tj_bst (tj_X (tj_od f g) m) (tj_S h m) P M N (2 ^ m)).1 := by
  have k := tj_pow m (by omega)
  have ng := tj_bst_neg (tj_X (tj_od f g) m) (tj_S h m) P M N (n := 2 ^ m) k.2.1
  unfold wpY_weightOf
  dsimp only
  by_cases e : (tj_bst (tj_X (tj_od f g) m) (tj_S h m) P M N (2 ^ m)).1 = -1
  · rw [tj_w_t e] at hp
    exact br_f (Int32.not_le.mpr (ng.mpr e)) hp
  · rw [tj_w_f e] at hp
    exact br_t (Int32.not_lt.mp (fun z => e (ng.mp z))) (ty_sum hm hp)
theorem ty_bw {post : Int32 → Prop} {p m : Nat} {w P M N : Int32} {f g h : Nat → Int32} (hm : m ≤ 12) (hp : post (tj_w (tj_S h m) (tj_bst (tj_X (tj_od f g) m) (tj_S h m) P M N (2 ^ m)).1)) : wpY_search (fun r => wpY_weightOf (fun r2 => post r2) (nI p, nI m, w, f, g, h) r) (nI p, nI m, w, f, g, h) P M N := ty_best hm (ty_w hm hp)
theorem ty_joins_l {post : Int32 → Prop} {p m : Nat} {w : Int32} {f g h : Nat → Int32} (hm : m ≤ 12) (hp : post (tj_cnt (tj_X (tj_od f g) m) w (2 ^ m))) : ∀ d s, s + d = 2 ^ m → wY_joins_4 post (nI p) (nI m) w f g h (d + 1) (tj_cnt (tj_X (tj_od f g) m) w s) (nI s) := by
  have k := tj_pow m (by omega)
  have k1 := k.1
  have k2 := k.2.1
  intro d
  induction d with
  | zero =>
    intro s hs
    have e : s = 2 ^ m := by omega
    have c : (1 : Int32) <<< (nI m &&& 31) ≤ nI s := by
      rw [k1, e]
      exact nI_le (Nat.le_refl _) (by omega)
    rw [e] at c ⊢
    exact br_t c hp
  | succ d ih =>
    intro s hs
    have c : ¬ (1 : Int32) <<< (nI m &&& 31) ≤ nI s := by
      rw [k1]
      exact nI_ge (by omega) (by omega)
    have q := ih (s + 1) (by omega)
    refine br_f c (ty_odd hm (br_c (fun h1 => nm_r (tj_cnt_t h1) (nm_r (nI_1 s) q)) (fun h1 => nm_r (nI_1 s) ?_)))
    rw [← tj_cnt_f h1] at q
    exact q
theorem ty_joins {post : Int32 → Prop} {p m : Nat} {w : Int32} {f g h : Nat → Int32} (hm : m ≤ 12) (hp : post (tj_cnt (tj_X (tj_od f g) m) w (2 ^ m))) : wpY_joins post (nI p, nI m, w, f, g, h) := ⟨2 ^ m + 1, ty_joins_l hm hp (2 ^ m) 0 (by omega)⟩
theorem ty_oddA {post : Int32 → Prop} {p m : Nat} {w : Int32} {f g h : Nat → Int32} (hm : m ≤ 12) (hp : post (tj_X (tj_od f g) m (nI (2 ^ m - 1)))) : wpY_odd post (nI p, nI m, w, f, g, h) ((1 : Int32) <<< (nI m &&& 31) - 1) := by
  rw [(tj_pow m (by omega)).2.2.2]
  exact ty_odd hm hp
theorem ty_oddPl {post : Int32 → Prop} {p m : Nat} {w : Int32} {f g h : Nat → Int32} (hm : m ≤ 12) (hp : post (tj_X (tj_od f g) m (nI (2 ^ m - 1)))) : wpY_oddPlaces post (nI p, nI m, w, f, g, h) := by
  unfold wpY_oddPlaces
  dsimp only
  exact ty_oddA hm hp
theorem ty_rnd {post : Int32 → Prop} {J : Int32 → Int32 → Prop} {p m k : Nat} {w r : Int32} {t f g h : Nat → Int32} (hm : m ≤ 12) (he : tj_ends p m t f g) (hJ : J (tj_rnd t r m) (nI (k + 1))) : ∀ d e, e + d = m → wY_whole_19 post J (nI k) (nI p) (nI m) w f g h (d + 1) (tj_rnd t r e) (nI e) := by
  intro d
  induction d with
  | zero =>
    intro e he
    obtain rfl : e = m := by omega
    exact br_t (nI_le (Nat.le_refl _) (by omega)) (nm_r (nI_1 k) hJ)
  | succ d ih =>
    intro e hed
    have c : ¬ nI m ≤ nI e := nI_ge (by omega) (by omega)
    have c12 : ¬ (12 : Int32) ≤ nI e := nI_ge (b := 12) (by omega) (by decide)
    have hi : vp_in (nI e) 12 := vp_in_nI (by omega) (by omega)
    have hc : (nI e).toNatClampNeg = e := nI_clamp (by omega)
    have q := ih (e + 1) (by omega)
    obtain ⟨i, j, hi1, hj1, ef, eg, et⟩ := he e (by omega)
    have es : ((1 : Int32) <<< (f (nI e).toNatClampNeg &&& 31)) ||| ((1 : Int32) <<< (g (nI e).toNatClampNeg &&& 31)) = t e := by
      rw [hc, ef, eg, et]
    refine br_f c (br_f c12 ⟨hi, hi, nm_r es (br_c (fun h1 => nm_r (nI_1 e) ?_) (fun h1 => nm_r (e' := tj_rnd t r (e + 1)) ?_ (nm_r (nI_1 e) q)))⟩)
    · rw [Int32.and_comm] at h1
      rw [tj_rnd1, if_pos h1] at q
      exact q
    · rw [Int32.and_comm] at h1
      rw [tj_rnd1, if_neg h1]
theorem ty_wh0 {post : Int32 → Prop} {p m : Nat} {w R : Int32} {f g h : Nat → Int32} (hm : m ≤ 12) (hp : post 0) : ∀ d e, e + d = m → (∃ k, e ≤ k ∧ k < m ∧ (R >>> (f k &&& 31)) &&& 1 = 0) → wY_whole_78 post R (nI p) (nI m) w f g h (d + 1) (nI e) := by
  intro d
  induction d with
  | zero =>
    intro e he hk
    obtain ⟨k, k1, k2, _⟩ := hk
    omega
  | succ d ih =>
    intro e he hk
    have c : ¬ nI m ≤ nI e := nI_ge (by omega) (by omega)
    have c12 : ¬ (12 : Int32) ≤ nI e := nI_ge (b := 12) (by omega) (by decide)
    have hi : vp_in (nI e) 12 := vp_in_nI (by omega) (by omega)
    have hc : (nI e).toNatClampNeg = e := nI_clamp (by omega)
    refine br_f c (br_f c12 ⟨hi, br_c (fun _ => hp) (fun h1 => nm_r (nI_1 e) (ih (e + 1) (by omega) ?_))⟩)
    rw [hc] at h1
    obtain ⟨k, k1, k2, k3⟩ := hk
    have ne : ¬ k = e := fun z => h1 (z ▸ k3)
    exact ⟨k, by omega, k2, k3⟩
theorem ty_wh1 {post : Int32 → Prop} {p m : Nat} {w R : Int32} {f g h : Nat → Int32} (hm : m ≤ 12) (ha : ∀ e, e < m → ¬ (R >>> (f e &&& 31)) &&& 1 = 0) (hp : post 1) : ∀ d e, e + d = m → wY_whole_78 post R (nI p) (nI m) w f g h (d + 1) (nI e) := by
  intro d
  induction d with
  | zero =>
    intro e he
    obtain rfl : e = m := by omega
    exact br_t (nI_le (Nat.le_refl _) (by omega)) hp
  | succ d ih =>
    intro e he
    have c : ¬ nI m ≤ nI e := nI_ge (by omega) (by omega)
    have c12 : ¬ (12 : Int32) ≤ nI e := nI_ge (b := 12) (by omega) (by decide)
    have hi : vp_in (nI e) 12 := vp_in_nI (by omega) (by omega)
    have hc : (nI e).toNatClampNeg = e := nI_clamp (by omega)
    refine br_f c (br_f c12 ⟨hi, br_f ?_ (nm_r (nI_1 e) (ih (e + 1) (by omega)))⟩)
    rw [hc]
    exact ha e (by omega)
theorem ty_rnds {post : Int32 → Prop} {p m : Nat} {w r : Int32} {t f g h : Nat → Int32} (hm : m ≤ 12) (he : tj_ends p m t f g) (hp : ∃ n, wY_whole_78 post (tj_it t m r 7) (nI p) (nI m) w f g h n 0) : ∀ d j, j + d = 7 → wY_whole_11 post (nI p) (nI m) w f g h (d + 1) (tj_it t m r j) (nI j) := by
  intro d
  induction d with
  | zero =>
    intro j hj
    obtain rfl : j = 7 := by omega
    exact br_t (nI_le (a := 7) (b := 7) (Nat.le_refl _) (by decide)) hp
  | succ d ih =>
    intro j hj
    have c : ¬ (7 : Int32) ≤ nI j := nI_ge (b := 7) (by omega) (by decide)
    exact br_f c ⟨m + 1, ty_rnd (r := tj_it t m r j) hm he (ih (j + 1) (by omega)) m 0 (by omega)⟩
theorem ty_whole {post : Int32 → Prop} {p m : Nat} {w : Int32} {t f g h : Nat → Int32} (hm : m ≤ 12) (he : tj_ends p m t f g) (hp : ∃ n, wY_whole_78 post (tj_it t m ((1 : Int32) <<< (f 0 &&& 31)) 7) (nI p) (nI m) w f g h n 0) : wpY_whole post (nI p, nI m, w, f, g, h) := nm_e ⟨7 + 1, ty_rnds hm he hp 7 0 (by omega)⟩
theorem ty_pn {post : Int32 → Prop} {p m : Nat} {w : Int32} {f g h : Nat → Int32} (hm : m ≤ 12) (hp : post (-1)) : ∀ d e, e + d = m → (∃ k, e ≤ k ∧ k < m ∧ ¬ 0 ≤ h k) → wY_postman_2 post (nI p) (nI m) w f g h (d + 1) (nI e) := by
  intro d
  induction d with
  | zero =>
    intro e he hk
    obtain ⟨k, k1, k2, _⟩ := hk
    omega
  | succ d ih =>
    intro e he hk
    have c : ¬ nI m ≤ nI e := nI_ge (by omega) (by omega)
    have c12 : ¬ (12 : Int32) ≤ nI e := nI_ge (b := 12) (by omega) (by decide)
    have hi : vp_in (nI e) 12 := vp_in_nI (by omega) (by omega)
    have hc : (nI e).toNatClampNeg = e := nI_clamp (by omega)
    refine br_f c (br_f c12 ⟨hi, br_c (fun h1 => nm_r (nI_1 e) (ih (e + 1) (by omega) ?_)) (fun _ => hp)⟩)
    rw [hc] at h1
    obtain ⟨k, k1, k2, k3⟩ := hk
    have ne : ¬ k = e := fun z => k3 (z ▸ h1)
    exact ⟨k, by omega, k2, k3⟩
theorem ty_pp {post : Int32 → Prop} {p m : Nat} {w : Int32} {f g h : Nat → Int32} (hm : m ≤ 12) (ha : ∀ e, e < m → 0 ≤ h e) (hp : wY_postman_33 post (nI p) (nI m) w f g h) : ∀ d e, e + d = m → wY_postman_2 post (nI p) (nI m) w f g h (d + 1) (nI e) := by
  intro d
  induction d with
  | zero =>
    intro e he
    obtain rfl : e = m := by omega
    exact br_t (nI_le (Nat.le_refl _) (by omega)) hp
  | succ d ih =>
    intro e he
    have c : ¬ nI m ≤ nI e := nI_ge (by omega) (by omega)
    have c12 : ¬ (12 : Int32) ≤ nI e := nI_ge (b := 12) (by omega) (by decide)
    have hi : vp_in (nI e) 12 := vp_in_nI (by omega) (by omega)
    have hc : (nI e).toNatClampNeg = e := nI_clamp (by omega)
    refine br_f c (br_f c12 ⟨hi, br_t ?_ (nm_r (nI_1 e) (ih (e + 1) (by omega)))⟩)
    rw [hc]
    exact ha e (by omega)
theorem ty_pm1 {post : Int32 → Prop} {p m : Nat} {w : Int32} {f g h : Nat → Int32} (hm : m ≤ 12) (hn : ∃ k, k < m ∧ ¬ 0 ≤ h k) (hp : post (-1)) : wpY_postman post (nI p, nI m, w, f, g, h) := by
  obtain ⟨k, k1, k2⟩ := hn
  exact ⟨m + 1, ty_pn hm hp m 0 (by omega) ⟨k, by omega, k1, k2⟩⟩
theorem ty_pm0 {post : Int32 → Prop} {p : Nat} {w : Int32} {f g h : Nat → Int32} (hp : post 0) : wpY_postman post (nI p, nI 0, w, f, g, h) := ⟨0 + 1, ty_pp (m := 0) (by omega) (fun _ z => absurd z (by omega)) (br_t rfl hp) 0 0 (by omega)⟩
theorem ty_pm2 {post : Int32 → Prop} {p m : Nat} {w : Int32} {t f g h : Nat → Int32} (hm0 : 0 < m) (hm : m ≤ 12) (he : tj_ends p m t f g) (ha : ∀ e, e < m → 0 ≤ h e) (hn : ∃ k, k < m ∧ (tj_it t m ((1 : Int32) <<< (f 0 &&& 31)) 7 >>> (f k &&& 31)) &&& 1 = 0) (hp : post (-2)) : wpY_postman post (nI p, nI m, w, f, g, h) := by
  obtain ⟨k, k1, k2⟩ := hn
  refine ⟨m + 1, ty_pp hm ha ?_ m 0 (by omega)⟩
  unfold wY_postman_33
  exact br_f (nI_ne0 hm0 (by omega)) (ty_whole hm he ⟨m + 1, ty_wh0 hm (br_t rfl hp) m 0 (by omega) ⟨k, by omega, k1, k2⟩⟩)
theorem ty_pmA {post : Int32 → Prop} {p m : Nat} {w : Int32} {f g h : Nat → Int32} (hm : m ≤ 12) (hp : post (tj_post (tj_od f g) h m)) : wpY_odd (fun r => wpY_search (fun r2 => wpY_weightOf (fun r3 => post r3) (nI p, nI m, w, f, g, h) r2) (nI p, nI m, w, f, g, h) r 0 0) (nI p, nI m, w, f, g, h) ((1 : Int32) <<< (nI m &&& 31) - 1) := by
  refine ty_oddA hm ?_
  refine ty_bw hm ?_
  exact hp
theorem ty_pm3 {post : Int32 → Prop} {p m : Nat} {w : Int32} {t f g h : Nat → Int32} (hm0 : 0 < m) (hm : m ≤ 12) (he : tj_ends p m t f g) (ha : ∀ e, e < m → 0 ≤ h e) (hj : ∀ e, e < m → ¬ (tj_it t m ((1 : Int32) <<< (f 0 &&& 31)) 7 >>> (f e &&& 31)) &&& 1 = 0) (hp : post (tj_post (tj_od f g) h m)) : wpY_postman post (nI p, nI m, w, f, g, h) := by
  refine ⟨m + 1, ty_pp hm ha ?_ m 0 (by omega)⟩
  unfold wY_postman_33
  exact br_f (nI_ne0 hm0 (by omega)) (ty_whole hm he ⟨m + 1, ty_wh1 hm hj (br_f tj_10 (ty_pmA hm hp)) m 0 (by omega)⟩)
theorem ty_rem {post : Int32 → SY → Prop} {p m r : Nat} {w : Int32} {f g h : Nat → Int32} (hm : m + 1 ≤ 12) (hp : post (nI m) (nI p, nI m, w, tj_shf f r m, tj_shf g r m, tj_shf h r m)) : ∀ d e, e + d = m → r ≤ e → wY_remove_12 post (nI p) (nI (m + 1)) w (d + 1) (nI e) (tj_shf f r e) (tj_shf g r e) (tj_shf h r e) := by
  intro d
  induction d with
  | zero =>
    intro e he hr
    obtain rfl : e = m := by omega
    have c : nI (e + 1) - 1 ≤ nI e := by
      rw [nI_pred]
      exact nI_le (Nat.le_refl _) (by omega)
    refine br_t c ?_
    unfold wY_remove_76
    exact nm_r (nI_pred e) hp
  | succ d ih =>
    intro e he hr
    have c : ¬ nI (m + 1) - 1 ≤ nI e := by
      rw [nI_pred]
      exact nI_ge (by omega) (by omega)
    have c11 : ¬ (11 : Int32) ≤ nI e := nI_ge (b := 11) (by omega) (by decide)
    have hi : vp_in (nI e) 12 := vp_in_nI (by omega) (by omega)
    have hi1 : vp_in (nI e + 1) 12 := by
      rw [nI_1]
      exact vp_in_nI (by omega) (by omega)
    have hc : (nI e).toNatClampNeg = e := nI_clamp (by omega)
    have hc1 : (nI e + 1).toNatClampNeg = e + 1 := by
      rw [nI_1]
      exact nI_clamp (by omega)
    have st : ∀ a : Nat → Int32, upd (tj_shf a r e) (nI e).toNatClampNeg (tj_shf a r e (nI e + 1).toNatClampNeg) = tj_shf a r (e + 1) := by
      intro a
      rw [hc, hc1]
      exact tj_shf_s a hr
    exact br_f c (br_f c11 ⟨hi1, hi, nm_r (st f) ⟨hi1, hi, nm_r (st g) ⟨hi1, hi, nm_r (st h) (nm_r (nI_1 e) (ih (e + 1) (by omega) (by omega)))⟩⟩⟩)
theorem ty_rem0 {post : Int32 → SY → Prop} {p m r : Nat} {w : Int32} {f g h : Nat → Int32} (hm : m + 1 ≤ 12) (hr : r ≤ m) (hp : post (nI m) (nI p, nI m, w, tj_shf f r m, tj_shf g r m, tj_shf h r m)) : ∃ n, wY_remove_12 post (nI p) (nI (m + 1)) w n (nI r) f g h := by
  have z := ty_rem hm hp (m - r) r (by omega) (Nat.le_refl r)
  rw [tj_shf_0, tj_shf_0, tj_shf_0] at z
  exact ⟨_, z⟩
theorem ty_pl1 {post : Int32 → Prop} {p i : Nat} {n w : Int32} {f g h : Nat → Int32} (hp7 : p ≤ 7) (hi : i < p) (hp : post 0) : wpY_bad post (nI p, n, w, f, g, h) (nI i) := br_f (nI_pos (by omega)) (br_t (nI_lt hi (by omega)) hp)
theorem ty_pl0 {post : Int32 → Prop} {p : Nat} {n w x : Int32} {f g h : Nat → Int32} (hx : x < 0 ∨ nI p ≤ x) (hp : post 1) : wpY_bad post (nI p, n, w, f, g, h) x := br_c (fun _ => hp) (fun h1 => br_f (Int32.not_lt.mpr (hx.resolve_left h1)) hp)
theorem ty_rd1 {post : Int32 → Prop} {m i : Nat} {n w : Int32} {f g h : Nat → Int32} (hm : m ≤ 12) (hi : i < m) (hp : post 0) : wpY_badRoad post (n, nI m, w, f, g, h) (nI i) := br_f (nI_pos (by omega)) (br_f (nI_ge hi (by omega)) (br_t (nI_le (b := 11) (by omega) (by decide)) hp))
theorem ty_rd0 {post : Int32 → Prop} {m : Nat} {n w x : Int32} {f g h : Nat → Int32} (hx : x < 0 ∨ nI m ≤ x) (hp : post 1) : wpY_badRoad post (n, nI m, w, f, g, h) x := br_c (fun _ => hp) (fun h1 => br_t (hx.resolve_left h1) hp)
theorem ty_wt1 {post : Int32 → Prop} {u : SY} {x : Int32} (h1 : ¬ x < -9) (h2 : ¬ 20 < x) (hp : post 0) : wpY_far post u x := br_f h1 (br_t (Int32.not_lt.mp h2) hp)
theorem ty_wt0 {post : Int32 → Prop} {u : SY} {x : Int32} (hx : x < -9 ∨ 20 < x) (hp : post 1) : wpY_far post u x := br_c (fun _ => hp) (fun h1 => br_f (Int32.not_le.mpr (hx.resolve_left h1)) hp)
end
section
/-- both states say the same places, roads, wanted set and weights; the component's two sets of a road are those of the reference's two ends -/
def i_Rel (_ : Nat) (u : SX) (v : SY) : Prop := ∃ (p m : Nat) (w : Int32) (t f g h : Nat → Int32), 2 ≤ p ∧ p ≤ 7 ∧ m ≤ 12 ∧ u = (nI p, nI m, w, t, tj_od f g, h) ∧ v = (nI p, nI m, w, f, g, h) ∧ tj_ends p m t f g
theorem fr_R {k p m : Nat} {w : Int32} {t f g h : Nat → Int32} (h2 : 2 ≤ p) (h7 : p ≤ 7) (hm : m ≤ 12) (he : tj_ends p m t f g) : i_Rel k (nI p, nI m, w, t, tj_od f g, h) (nI p, nI m, w, f, g, h) := ⟨p, m, w, t, f, g, h, h2, h7, hm, rfl, rfl, he⟩
theorem fr_ix (x : Int32) {n : Nat} (hn : n ≤ 12) : (x < 0 ∨ nI n ≤ x) ∨ ∃ j : Nat, j < n ∧ x = nI j := by
  rcases pk_ix x (n := n) (by omega) with a | a | a
  · exact Or.inl (Or.inl a)
  · exact Or.inl (Or.inr a)
  · exact Or.inr a
theorem i_up {k : Nat} {u : SX} {v : SY} (h : i_Rel k u v) : i_Rel (k + 4) u v := h
theorem fr_od0 : tj_od (fun _ => 0) (fun _ => 0) = fun _ => 0 := funext fun _ => (by decide : ((1 : Int32) <<< ((0 : Int32) &&& 31)) ^^^ ((1 : Int32) <<< ((0 : Int32) &&& 31)) = 0)
theorem fr_0 {p : Nat} (h2 : 2 ≤ p) (h7 : p ≤ 7) : i_Rel 1 (nI p, 0, 0, (fun _ => 0), (fun _ => 0), (fun _ => 0)) (nI p, 0, 0, (fun _ => 0), (fun _ => 0), (fun _ => 0)) := by
  have a := fr_R (k := 1) (p := p) (m := 0) (w := 0) (t := fun _ => 0) (f := fun _ => 0) (g := fun _ => 0) (h := fun _ => 0) h2 h7 (by omega) tj_ends_0
  rw [fr_od0] at a
  exact a
theorem i_vc0 (k0 : Int32) : wpX_init (fun u => wpY_init (fun v => i_Rel 1 u v) k0) k0 := by
  unfold wpX_init wpY_init
  by_cases a : 2 ≤ k0
  · by_cases b : k0 ≤ 7
    · obtain ⟨j, hj, rfl⟩ := nI_of2 (x := k0) (M := 7) (n := 7) (by decide) (Int32.not_lt.mpr (Int32.le_trans (by decide) a)) b
      have c : 2 ≤ j := (nI_leI (a := 2) (b := j) (by decide) (by omega)).mp a
      exact br_t a (br_t b (br_t a (br_t b (fr_0 c hj))))
    · exact br_t a (br_f b (br_t a (br_f b (fr_0 (p := 7) (by omega) (by omega)))))
  · exact br_f a (br_f a (fr_0 (p := 2) (by omega) (by omega)))
theorem fr_road {k p m i j : Nat} {w x : Int32} {t f g h : Nat → Int32} (h2 : 2 ≤ p) (h7 : p ≤ 7) (hm : m < 12) (he : tj_ends p m t f g) (hi : i < p) (hj : j < p) : i_Rel k (nI p, nI (m + 1), w, upd t m (((1 : Int32) <<< (nI i &&& 31)) ||| ((1 : Int32) <<< (nI j &&& 31))), upd (tj_od f g) m (((1 : Int32) <<< (nI i &&& 31)) ^^^ ((1 : Int32) <<< (nI j &&& 31))), upd h m x) (nI p, nI (m + 1), w, upd f m (nI i), upd g m (nI j), upd h m x) := by
  rw [tj_od_u]
  exact fr_R h2 h7 (by omega) (tj_ends_u he hi hj)
theorem i_vc_road {k : Nat} {u : SX} {v : SY} (I : i_Rel k u v) (hk : k + 4 ≤ 2049) (v1 : Int32) (v2 : Int32) (v3 : Int32) : wpX_road (fun r u' => wpY_road (fun r' v' => r' = r ∧ i_Rel (k + 4) u' v') v v1 v2 v3) u v1 v2 v3 := by
  obtain ⟨p, m, w, t, f, g, h, h2, h7, hm, rfl, rfl, he⟩ := I
  have R := fr_R (k := k + 4) (w := w) (h := h) h2 h7 hm he
  have hc : (nI m).toNatClampNeg = m := nI_clamp (by omega)
  unfold wpX_road wpY_road
  dsimp only
  rw [hc]
  rcases fr_ix v1 (n := p) (by omega) with a | ⟨i, hi, rfl⟩
  · exact tx_pl0 a (br_t rfl (ty_pl0 a (br_f tj_10 ⟨rfl, R⟩)))
  · rcases fr_ix v2 (n := p) (by omega) with b | ⟨j, hj, rfl⟩
    · exact tx_pl1 h7 hi (br_f tj_10 (tx_pl0 b (br_t rfl (ty_pl1 h7 hi (br_t rfl (ty_pl0 b (br_f tj_10 ⟨rfl, R⟩)))))))
    · refine tx_pl1 h7 hi (br_f tj_10 (tx_pl1 h7 hj (br_f tj_10 ?_)))
      by_cases c : v3 < -9 ∨ 20 < v3
      · exact tx_wt0 c (br_t rfl (ty_pl1 h7 hi (br_t rfl (ty_pl1 h7 hj (br_t rfl (ty_wt0 c (br_f tj_10 ⟨rfl, R⟩)))))))
      · have c1 : ¬ v3 < -9 := fun z => c (Or.inl z)
        have c2 : ¬ 20 < v3 := fun z => c (Or.inr z)
        refine tx_wt1 c1 c2 (br_f tj_10 ?_)
        rcases Nat.lt_or_ge m 12 with d | d
        · have v : vp_in (nI m) 12 := vp_in_nI d (by decide)
          refine br_t (nI_lt (b := 12) d (by decide)) ⟨v, nm_e ⟨v, nm_e ⟨v, nm_e (nm_r (nI_1 m) ?_)⟩⟩⟩
          refine ty_pl1 h7 hi (br_t rfl (ty_pl1 h7 hj (br_t rfl (ty_wt1 c1 c2 (br_t rfl ?_)))))
          exact br_t (nI_le (b := 11) (by omega) (by decide)) ⟨v, nm_e ⟨v, nm_e ⟨v, nm_e (nm_r (nI_1 m) ⟨rfl, fr_road h2 h7 d he hi hj⟩)⟩⟩⟩
        · refine br_f (nI_nlt (b := 12) d (by omega)) ?_
          exact ty_pl1 h7 hi (br_t rfl (ty_pl1 h7 hj (br_t rfl (ty_wt1 c1 c2 (br_t rfl (br_f (fun z => absurd ((nI_leI (b := 11) (by omega) (by decide)).mp z) (by omega)) ⟨rfl, R⟩))))))
theorem i_vc_remove {k : Nat} {u : SX} {v : SY} (I : i_Rel k u v) (hk : k + 4 ≤ 2049) (v1 : Int32) : wpX_remove (fun r u' => wpY_remove (fun r' v' => r' = r ∧ i_Rel (k + 4) u' v') v v1) u v1 := by
  obtain ⟨p, m, w, t, f, g, h, h2, h7, hm, rfl, rfl, he⟩ := I
  have R := fr_R (k := k + 4) (w := w) (h := h) h2 h7 hm he
  unfold wpX_remove wpY_remove
  dsimp only
  rcases fr_ix v1 hm with a | ⟨i, hi, rfl⟩
  · exact tx_rd0 a (br_t rfl (ty_rd0 a (br_f tj_10 ⟨rfl, R⟩)))
  · obtain ⟨q, rfl⟩ : ∃ q, m = q + 1 := ⟨m - 1, by omega⟩
    have R2 : i_Rel (k + 4) (nI p, nI q, w, tj_shf t i q, tj_shf (tj_od f g) i q, tj_shf h i q) (nI p, nI q, w, tj_shf f i q, tj_shf g i q, tj_shf h i q) := by
      rw [tj_od_s]
      exact fr_R h2 h7 (by omega) (tj_ends_s he)
    refine tx_rd1 hm hi (br_f tj_10 (tx_rem0 hm (by omega) ?_))
    refine ty_rd1 hm hi (br_t rfl (ty_rem0 hm (by omega) ?_))
    exact ⟨rfl, R2⟩
theorem i_vc_weigh {k : Nat} {u : SX} {v : SY} (I : i_Rel k u v) (hk : k + 4 ≤ 2049) (v1 : Int32) (v2 : Int32) : wpX_weigh (fun r u' => wpY_weigh (fun r' v' => r' = r ∧ i_Rel (k + 4) u' v') v v1 v2) u v1 v2 := by
  obtain ⟨p, m, w, t, f, g, h, h2, h7, hm, rfl, rfl, he⟩ := I
  have R := fr_R (k := k + 4) (w := w) (h := h) h2 h7 hm he
  unfold wpX_weigh wpY_weigh
  dsimp only
  rcases fr_ix v1 hm with a | ⟨i, hi, rfl⟩
  · exact tx_rd0 a (br_t rfl (ty_rd0 a (br_f tj_10 ⟨rfl, R⟩)))
  · refine tx_rd1 hm hi (br_f tj_10 ?_)
    by_cases c : v2 < -9 ∨ 20 < v2
    · exact tx_wt0 c (br_t rfl (ty_rd1 hm hi (br_t rfl (ty_wt0 c (br_f tj_10 ⟨rfl, R⟩)))))
    · have c1 : ¬ v2 < -9 := fun z => c (Or.inl z)
      have c2 : ¬ 20 < v2 := fun z => c (Or.inr z)
      have v : vp_in (nI i) 12 := vp_in_nI (by omega) (by decide)
      refine tx_wt1 c1 c2 (br_f tj_10 ⟨v, nm_e ⟨v, nm_e ?_⟩⟩)
      refine ty_rd1 hm hi (br_t rfl (ty_wt1 c1 c2 (br_t rfl ⟨v, nm_e ⟨v, nm_e ?_⟩⟩)))
      exact ⟨rfl, fr_R h2 h7 hm he⟩
theorem i_vc_want {k : Nat} {u : SX} {v : SY} (I : i_Rel k u v) (hk : k + 4 ≤ 2049) (v1 : Int32) : wpX_want (fun r u' => wpY_want (fun r' v' => r' = r ∧ i_Rel (k + 4) u' v') v v1) u v1 := by
  obtain ⟨p, m, w, t, f, g, h, h2, h7, hm, rfl, rfl, he⟩ := I
  have R := fr_R (k := k + 4) (w := w) (h := h) h2 h7 hm he
  unfold wpX_want wpX_isSetOf wpY_want
  dsimp only
  by_cases a : v1 < 0
  · exact br_t a (br_t rfl (br_t a ⟨rfl, R⟩))
  · by_cases b : (1 : Int32) <<< (nI p &&& 31) ≤ v1
    · exact br_f a (br_t b (br_t rfl (br_f a (br_f (Int32.not_lt.mpr b) ⟨rfl, R⟩))))
    · exact br_f a (br_f b (br_f tj_10 (br_f a (br_t (Int32.not_le.mp b) ⟨rfl, fr_R h2 h7 hm he⟩))))
theorem i_vc_turn {k : Nat} {u : SX} {v : SY} (I : i_Rel k u v) (hk : k + 4 ≤ 2049) (v1 : Int32) : wpX_turn (fun r u' => wpY_turn (fun r' v' => r' = r ∧ i_Rel (k + 4) u' v') v v1) u v1 := by
  obtain ⟨p, m, w, t, f, g, h, h2, h7, hm, rfl, rfl, he⟩ := I
  have R := fr_R (k := k + 4) (w := w) (h := h) h2 h7 hm he
  unfold wpX_turn wpY_turn
  dsimp only
  rcases fr_ix v1 (n := p) (by omega) with a | ⟨i, hi, rfl⟩
  · exact tx_pl0 a (br_t rfl (ty_pl0 a (br_f tj_10 ⟨rfl, R⟩)))
  · refine tx_pl1 h7 hi (br_f tj_10 (nm_e ?_))
    refine ty_pl1 h7 hi (br_t rfl (nm_e ?_))
    exact ⟨rfl, fr_R h2 h7 hm he⟩
theorem i_vc_roads {k : Nat} {u : SX} {v : SY} (I : i_Rel k u v) (hk : k + 4 ≤ 2049) : wpX_roads (fun r => wpY_roads (fun r' => r' = r ∧ i_Rel (k + 4) u v) v) u := by
  obtain ⟨p, m, w, t, f, g, h, h2, h7, hm, rfl, rfl, he⟩ := I
  have R := fr_R (k := k + 4) (w := w) (h := h) h2 h7 hm he
  exact ⟨rfl, R⟩
theorem i_vc_isJoin {k : Nat} {u : SX} {v : SY} (I : i_Rel k u v) (hk : k + 4 ≤ 2049) (v1 : Int32) : wpX_isJoin (fun r => wpY_isJoin (fun r' => r' = r ∧ i_Rel (k + 4) u v) v v1) u v1 := by
  obtain ⟨p, m, w, t, f, g, h, h2, h7, hm, rfl, rfl, he⟩ := I
  have R := fr_R (k := k + 4) (w := w) (h := h) h2 h7 hm he
  unfold wpX_isJoin wpX_isSetOf wpY_isJoin
  dsimp only
  by_cases a : v1 < 0
  · exact br_t a (br_t rfl (br_t a ⟨rfl, R⟩))
  · by_cases b : (1 : Int32) <<< (nI m &&& 31) ≤ v1
    · exact br_f a (br_t b (br_t rfl (br_f a (br_f (Int32.not_lt.mpr b) ⟨rfl, R⟩))))
    · refine br_f a (br_f b (br_f tj_10 (tx_odd hm (br_c (fun e => ?_) (fun e => ?_)))))
      · refine br_f a (br_t (Int32.not_le.mp b) (ty_odd hm ?_))
        exact br_t e ⟨rfl, R⟩
      · refine br_f a (br_t (Int32.not_le.mp b) (ty_odd hm ?_))
        exact br_f e ⟨rfl, R⟩
theorem i_vc_possible {k : Nat} {u : SX} {v : SY} (I : i_Rel k u v) (hk : k + 4 ≤ 2049) : wpX_possible (fun r => wpY_possible (fun r' => r' = r ∧ i_Rel (k + 4) u v) v) u := by
  obtain ⟨p, m, w, t, f, g, h, h2, h7, hm, rfl, rfl, he⟩ := I
  have R := fr_R (k := k + 4) (w := w) (h := h) h2 h7 hm he
  have ng := tj_bst_neg (tj_X (tj_od f g) m) (tj_S h m) w 0 0 (n := 2 ^ m) (tj_pow m (by omega)).2.1
  unfold wpX_possible wpY_possible
  dsimp only
  by_cases e : (tj_bst (tj_X (tj_od f g) m) (tj_S h m) w 0 0 (2 ^ m)).1 = -1
  · refine tx_best hm (br_t e (ty_best hm ?_))
    exact br_f (Int32.not_le.mpr (ng.mpr e)) ⟨rfl, R⟩
  · refine tx_best hm (br_f e (ty_best hm ?_))
    exact br_t (Int32.not_lt.mp (fun z => e (ng.mp z))) ⟨rfl, R⟩
theorem i_vc_joins {k : Nat} {u : SX} {v : SY} (I : i_Rel k u v) (hk : k + 4 ≤ 2049) : wpX_joins (fun r => wpY_joins (fun r' => r' = r ∧ i_Rel (k + 4) u v) v) u := by
  obtain ⟨p, m, w, t, f, g, h, h2, h7, hm, rfl, rfl, he⟩ := I
  have R := fr_R (k := k + 4) (w := w) (h := h) h2 h7 hm he
  refine tx_joins hm ?_
  refine ty_joins hm ?_
  exact ⟨rfl, R⟩
theorem i_vc_best {k : Nat} {u : SX} {v : SY} (I : i_Rel k u v) (hk : k + 4 ≤ 2049) : wpX_best (fun r => wpY_best (fun r' => r' = r ∧ i_Rel (k + 4) u v) v) u := by
  obtain ⟨p, m, w, t, f, g, h, h2, h7, hm, rfl, rfl, he⟩ := I
  have R := fr_R (k := k + 4) (w := w) (h := h) h2 h7 hm he
  unfold wpX_best wpY_best
  dsimp only
  refine tx_bw hm ?_
  refine ty_bw (post := fun r' => r' = _ ∧ _) hm ?_
  exact ⟨rfl, R⟩
theorem i_vc_bestSet {k : Nat} {u : SX} {v : SY} (I : i_Rel k u v) (hk : k + 4 ≤ 2049) : wpX_bestSet (fun r => wpY_bestSet (fun r' => r' = r ∧ i_Rel (k + 4) u v) v) u := by
  obtain ⟨p, m, w, t, f, g, h, h2, h7, hm, rfl, rfl, he⟩ := I
  have R := fr_R (k := k + 4) (w := w) (h := h) h2 h7 hm he
  unfold wpX_bestSet wpY_bestSet
  dsimp only
  refine tx_best hm ?_
  refine ty_best hm ?_
  exact ⟨rfl, R⟩
theorem i_vc_bestWith {k : Nat} {u : SX} {v : SY} (I : i_Rel k u v) (hk : k + 4 ≤ 2049) (v1 : Int32) : wpX_bestWith (fun r => wpY_bestWith (fun r' => r' = r ∧ i_Rel (k + 4) u v) v v1) u v1 := by
  obtain ⟨p, m, w, t, f, g, h, h2, h7, hm, rfl, rfl, he⟩ := I
  have R := fr_R (k := k + 4) (w := w) (h := h) h2 h7 hm he
  unfold wpX_bestWith wpY_bestWith
  dsimp only
  rcases fr_ix v1 hm with a | ⟨i, hi, rfl⟩
  · exact tx_rd0 a (br_t rfl (ty_rd0 a (br_f tj_10 ⟨rfl, R⟩)))
  · refine tx_rd1 hm hi (br_f tj_10 (tx_bw hm ?_))
    refine ty_rd1 hm hi (br_t rfl (ty_bw (post := fun r' => r' = _ ∧ _) hm ?_))
    exact ⟨rfl, R⟩
theorem i_vc_bestWithout {k : Nat} {u : SX} {v : SY} (I : i_Rel k u v) (hk : k + 4 ≤ 2049) (v1 : Int32) : wpX_bestWithout (fun r => wpY_bestWithout (fun r' => r' = r ∧ i_Rel (k + 4) u v) v v1) u v1 := by
  obtain ⟨p, m, w, t, f, g, h, h2, h7, hm, rfl, rfl, he⟩ := I
  have R := fr_R (k := k + 4) (w := w) (h := h) h2 h7 hm he
  unfold wpX_bestWithout wpY_bestWithout
  dsimp only
  rcases fr_ix v1 hm with a | ⟨i, hi, rfl⟩
  · exact tx_rd0 a (br_t rfl (ty_rd0 a (br_f tj_10 ⟨rfl, R⟩)))
  · refine tx_rd1 hm hi (br_f tj_10 (tx_bw hm ?_))
    refine ty_rd1 hm hi (br_t rfl (ty_bw (post := fun r' => r' = _ ∧ _) hm ?_))
    exact ⟨rfl, R⟩
theorem i_vc_between {k : Nat} {u : SX} {v : SY} (I : i_Rel k u v) (hk : k + 4 ≤ 2049) (v1 : Int32) (v2 : Int32) : wpX_between (fun r => wpY_between (fun r' => r' = r ∧ i_Rel (k + 4) u v) v v1 v2) u v1 v2 := by
  obtain ⟨p, m, w, t, f, g, h, h2, h7, hm, rfl, rfl, he⟩ := I
  have R := fr_R (k := k + 4) (w := w) (h := h) h2 h7 hm he
  unfold wpX_between wpY_between
  dsimp only
  rcases fr_ix v1 (n := p) (by omega) with a | ⟨i, hi, rfl⟩
  · exact tx_pl0 a (br_t rfl (ty_pl0 a (br_f tj_10 ⟨rfl, R⟩)))
  · refine tx_pl1 h7 hi (br_f tj_10 ?_)
    rcases fr_ix v2 (n := p) (by omega) with b | ⟨j, hj, rfl⟩
    · exact tx_pl0 b (br_t rfl (ty_pl1 h7 hi (br_t rfl (ty_pl0 b (br_f tj_10 ⟨rfl, R⟩)))))
    · refine tx_pl1 h7 hj (br_f tj_10 (tx_bw hm ?_))
      refine ty_pl1 h7 hi (br_t rfl (ty_pl1 h7 hj (br_t rfl (ty_bw (post := fun r' => r' = _ ∧ _) hm ?_))))
      exact ⟨rfl, R⟩
theorem i_vc_postman {k : Nat} {u : SX} {v : SY} (I : i_Rel k u v) (hk : k + 4 ≤ 2049) : wpX_postman (fun r => wpY_postman (fun r' => r' = r ∧ i_Rel (k + 4) u v) v) u := by
  obtain ⟨p, m, w, t, f, g, h, h2, h7, hm, rfl, rfl, he⟩ := I
  have R := fr_R (k := k + 4) (w := w) (h := h) h2 h7 hm he
  by_cases n : ∃ k, k < m ∧ ¬ 0 ≤ h k
  · refine tx_pm1 hm n ?_
    refine ty_pm1 hm n ?_
    exact ⟨rfl, R⟩
  · have ha : ∀ e, e < m → 0 ≤ h e := fun e z => Classical.byContradiction (fun y => n ⟨e, z, y⟩)
    rcases Nat.eq_zero_or_pos m with m0 | m0
    · subst m0
      refine tx_pm3 h7 hm ha (fun e z => absurd z (by omega)) ?_
      refine ty_pm0 ?_
      exact ⟨(tj_post_0 _ _).symm, R⟩
    · obtain ⟨e7, tst⟩ := tj_joined m0 (by omega) h7 he
      rw [e7] at tst
      by_cases n2 : ∃ k, k < m ∧ (t k &&& tj_it t m (t 0) p) = 0
      · have n3 := n2
        obtain ⟨c, c1, c2⟩ := n3
        rw [e7] at c2
        refine tx_pm2 h7 hm ha n2 ?_
        refine ty_pm2 m0 hm he ha ⟨c, c1, (tst c c1).mp c2⟩ ?_
        exact ⟨rfl, R⟩
      · refine tx_pm3 h7 hm ha (fun e z y => n2 ⟨e, z, y⟩) ?_
        rw [e7] at n2
        refine ty_pm3 m0 hm he ha (fun e z y => n2 ⟨e, z, (tst e z).mpr y⟩) ?_
        exact ⟨rfl, R⟩
theorem i_vc_oddPlaces {k : Nat} {u : SX} {v : SY} (I : i_Rel k u v) (hk : k + 4 ≤ 2049) : wpX_oddPlaces (fun r => wpY_oddPlaces (fun r' => r' = r ∧ i_Rel (k + 4) u v) v) u := by
  obtain ⟨p, m, w, t, f, g, h, h2, h7, hm, rfl, rfl, he⟩ := I
  have R := fr_R (k := k + 4) (w := w) (h := h) h2 h7 hm he
  refine tx_oddPl hm ?_
  refine ty_oddPl hm ?_
  exact ⟨rfl, R⟩
end
