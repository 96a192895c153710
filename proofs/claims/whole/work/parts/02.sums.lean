/-- the picked roads' entries under xor -/
def tj_x (a : Nat → Int32) (s : Int32) : Nat → Int32
  | 0 => 0
  | e + 1 => if (s >>> (nI e &&& 31)) &&& 1 = 1 then tj_x a s e ^^^ a e else tj_x a s e
/-- the picked roads' sum -/
def tj_s (a : Nat → Int32) (s : Int32) : Nat → Int32
  | 0 => 0
  | e + 1 => if (s >>> (nI e &&& 31)) &&& 1 = 1 then tj_s a s e + a e else tj_s a s e
theorem tj_x_t {a : Nat → Int32} {s : Int32} {e : Nat} (h : (s >>> (nI e &&& 31)) &&& 1 = 1) : tj_x a s e ^^^ a e = tj_x a s (e + 1) := (if_pos h).symm
theorem tj_x_f {a : Nat → Int32} {s : Int32} {e : Nat} (h : ¬ (s >>> (nI e &&& 31)) &&& 1 = 1) : tj_x a s e = tj_x a s (e + 1) := (if_neg h).symm
theorem tj_s_t {a : Nat → Int32} {s : Int32} {e : Nat} (h : (s >>> (nI e &&& 31)) &&& 1 = 1) : tj_s a s e + a e = tj_s a s (e + 1) := (if_pos h).symm
theorem tj_s_f {a : Nat → Int32} {s : Int32} {e : Nat} (h : ¬ (s >>> (nI e &&& 31)) &&& 1 = 1) : tj_s a s e = tj_s a s (e + 1) := (if_neg h).symm
/-- one step of the search -/
def tj_stp (O S : Int32 → Int32) (P M N s : Int32) (q : Int32 × Int32) : Int32 × Int32 :=
  if (s &&& M) = M ∧ (s &&& N) = 0 ∧ O s = P then (if q.1 = -1 ∨ S s < q.2 then (s, S s) else q) else q
/-- the search over the first sets -/
def tj_bst (O S : Int32 → Int32) (P M N : Int32) : Nat → Int32 × Int32
  | 0 => (-1, 0)
  | s + 1 => tj_stp O S P M N (nI s) (tj_bst O S P M N s)
theorem tj_bst_1 (O S : Int32 → Int32) (P M N : Int32) (s : Nat) : tj_bst O S P M N (s + 1) = tj_stp O S P M N (nI s) (tj_bst O S P M N s) := rfl
theorem tj_bst_n {O S : Int32 → Int32} {P M N : Int32} {s : Nat} (h : ¬ ((nI s &&& M) = M ∧ (nI s &&& N) = 0 ∧ O (nI s) = P)) : tj_bst O S P M N (s + 1) = tj_bst O S P M N s := if_neg h
theorem tj_bst_t {O S : Int32 → Int32} {P M N : Int32} {s : Nat} (h : (nI s &&& M) = M ∧ (nI s &&& N) = 0 ∧ O (nI s) = P) (h2 : (tj_bst O S P M N s).1 = -1 ∨ S (nI s) < (tj_bst O S P M N s).2) : tj_bst O S P M N (s + 1) = (nI s, S (nI s)) := (if_pos h).trans (if_pos h2)
theorem tj_bst_k {O S : Int32 → Int32} {P M N : Int32} {s : Nat} (h : (nI s &&& M) = M ∧ (nI s &&& N) = 0 ∧ O (nI s) = P) (h2 : ¬ ((tj_bst O S P M N s).1 = -1 ∨ S (nI s) < (tj_bst O S P M N s).2)) : tj_bst O S P M N (s + 1) = tj_bst O S P M N s := (if_pos h).trans (if_neg h2)
theorem tj_bst_in (O S : Int32 → Int32) (P M N : Int32) (n : Nat) : (tj_bst O S P M N n).1 = -1 ∨ ∃ j, j < n ∧ (tj_bst O S P M N n).1 = nI j := by
  induction n with
  | zero => exact Or.inl rfl
  | succ n ih =>
    have up : (tj_bst O S P M N (n + 1)) = tj_bst O S P M N n → ((tj_bst O S P M N (n + 1)).1 = -1 ∨ ∃ j, j < n + 1 ∧ (tj_bst O S P M N (n + 1)).1 = nI j) := by
      intro e
      rw [e]
      rcases ih with ih | ⟨j, hj, ej⟩
      · exact Or.inl ih
      · exact Or.inr ⟨j, by omega, ej⟩
    by_cases h : (nI n &&& M) = M ∧ (nI n &&& N) = 0 ∧ O (nI n) = P
    · by_cases h2 : (tj_bst O S P M N n).1 = -1 ∨ S (nI n) < (tj_bst O S P M N n).2
      · exact Or.inr ⟨n, by omega, by rw [tj_bst_t h h2]⟩
      · exact up (tj_bst_k h h2)
    · exact up (tj_bst_n h)
theorem tj_nm1 {j : Nat} (h : j < 2 ^ 31) : ¬ nI j = -1 := by
  intro e
  have a : ¬ nI j < 0 := nI_pos h
  rw [e] at a
  exact a (by decide)
theorem tj_bst_neg (O S : Int32 → Int32) (P M N : Int32) {n : Nat} (hn : n ≤ 4096) : (tj_bst O S P M N n).1 < 0 ↔ (tj_bst O S P M N n).1 = -1 := by
  rcases tj_bst_in O S P M N n with h | ⟨j, hj, ej⟩
  · rw [h]
    exact ⟨fun _ => rfl, fun _ => by decide⟩
  · rw [ej]
    exact ⟨fun a => absurd a (nI_pos (by omega)), fun a => absurd a (tj_nm1 (by omega))⟩
/-- the weight of the set that was found -/
def tj_w (S : Int32 → Int32) (c : Int32) : Int32 := if c = -1 then -1000 else S c
theorem tj_w_t {S : Int32 → Int32} {c : Int32} (h : c = -1) : tj_w S c = -1000 := if_pos h
theorem tj_w_f {S : Int32 → Int32} {c : Int32} (h : ¬ c = -1) : tj_w S c = S c := if_neg h
/-- how many of the first sets are joins -/
def tj_cnt (O : Int32 → Int32) (w : Int32) : Nat → Int32
  | 0 => 0
  | s + 1 => if O (nI s) = w then tj_cnt O w s + 1 else tj_cnt O w s
theorem tj_cnt_t {O : Int32 → Int32} {w : Int32} {s : Nat} (h : O (nI s) = w) : tj_cnt O w s + 1 = tj_cnt O w (s + 1) := (if_pos h).symm
theorem tj_cnt_f {O : Int32 → Int32} {w : Int32} {s : Nat} (h : ¬ O (nI s) = w) : tj_cnt O w s = tj_cnt O w (s + 1) := (if_neg h).symm
theorem tj_pow : ∀ m, m < 13 → (1 : Int32) <<< (nI m &&& 31) = nI (2 ^ m) ∧ 2 ^ m ≤ 4096 ∧ 0 < 2 ^ m ∧ (1 : Int32) <<< (nI m &&& 31) - 1 = nI (2 ^ m - 1) := by decide +kernel
/-- an array whose entries from r to j have moved one down -/
def tj_shf (a : Nat → Int32) (r j : Nat) : Nat → Int32 := fun i => if r ≤ i ∧ i < j then a (i + 1) else a i
theorem tj_shf_i {a : Nat → Int32} {r j i : Nat} (h : r ≤ i ∧ i < j) : tj_shf a r j i = a (i + 1) := if_pos h
theorem tj_shf_o {a : Nat → Int32} {r j i : Nat} (h : ¬ (r ≤ i ∧ i < j)) : tj_shf a r j i = a i := if_neg h
theorem tj_shf_0 (a : Nat → Int32) (r : Nat) : tj_shf a r r = a := funext fun _ => if_neg (by omega)
theorem tj_shf_s (a : Nat → Int32) {r j : Nat} (h : r ≤ j) : upd (tj_shf a r j) j (tj_shf a r j (j + 1)) = tj_shf a r (j + 1) := by
  funext i
  by_cases e : i = j
  · subst e
    rw [pk_us, tj_shf_o (by omega), tj_shf_i (by omega)]
  · rw [pk_un e]
    by_cases h2 : r ≤ i ∧ i < j
    · rw [tj_shf_i h2, tj_shf_i (by omega)]
    · rw [tj_shf_o h2, tj_shf_o (by omega)]
/-- the places where a road has an odd number of ends, by its two ends -/
def tj_od (f g : Nat → Int32) : Nat → Int32 := fun e => ((1 : Int32) <<< (f e &&& 31)) ^^^ ((1 : Int32) <<< (g e &&& 31))
theorem tj_od_u (f g : Nat → Int32) (k : Nat) (x y : Int32) : upd (tj_od f g) k (((1 : Int32) <<< (x &&& 31)) ^^^ ((1 : Int32) <<< (y &&& 31))) = tj_od (upd f k x) (upd g k y) := by
  funext i
  by_cases e : i = k
  · subst e
    rw [pk_us]
    show _ = ((1 : Int32) <<< (upd f i x i &&& 31)) ^^^ ((1 : Int32) <<< (upd g i y i &&& 31))
    rw [pk_us, pk_us]
  · rw [pk_un e]
    show _ = ((1 : Int32) <<< (upd f k x i &&& 31)) ^^^ ((1 : Int32) <<< (upd g k y i &&& 31))
    rw [pk_un e, pk_un e]
    rfl
theorem tj_od_s (f g : Nat → Int32) (r j : Nat) : tj_shf (tj_od f g) r j = tj_od (tj_shf f r j) (tj_shf g r j) := by
  funext i
  show _ = ((1 : Int32) <<< (tj_shf f r j i &&& 31)) ^^^ ((1 : Int32) <<< (tj_shf g r j i &&& 31))
  by_cases h : r ≤ i ∧ i < j
  · rw [tj_shf_i h, tj_shf_i h, tj_shf_i h]
    rfl
  · rw [tj_shf_o h, tj_shf_o h, tj_shf_o h]
    rfl
/-- the ends of the first m roads are places, and t has the sets of them -/
def tj_ends (p m : Nat) (t f g : Nat → Int32) : Prop := ∀ e, e < m → ∃ i j : Nat, i < p ∧ j < p ∧ f e = nI i ∧ g e = nI j ∧ t e = ((1 : Int32) <<< (nI i &&& 31)) ||| ((1 : Int32) <<< (nI j &&& 31))
theorem tj_ends_0 {p : Nat} {t f g : Nat → Int32} : tj_ends p 0 t f g := fun _ h => absurd h (by omega)
theorem tj_ends_u {p m : Nat} {t f g : Nat → Int32} (h : tj_ends p m t f g) {i j : Nat} (hi : i < p) (hj : j < p) : tj_ends p (m + 1) (upd t m (((1 : Int32) <<< (nI i &&& 31)) ||| ((1 : Int32) <<< (nI j &&& 31)))) (upd f m (nI i)) (upd g m (nI j)) := by
  intro e he
  by_cases em : e = m
  · subst em
    exact ⟨i, j, hi, hj, pk_us, pk_us, pk_us⟩
  · rw [pk_un em, pk_un em, pk_un em]
    exact h e (by omega)
theorem tj_ends_s {p m r : Nat} {t f g : Nat → Int32} (h : tj_ends p (m + 1) t f g) : tj_ends p m (tj_shf t r m) (tj_shf f r m) (tj_shf g r m) := by
  intro e he
  by_cases h2 : r ≤ e ∧ e < m
  · rw [tj_shf_i h2, tj_shf_i h2, tj_shf_i h2]
    exact h (e + 1) (by omega)
  · rw [tj_shf_o h2, tj_shf_o h2, tj_shf_o h2]
    exact h e (by omega)
theorem tj_ends_in {p m : Nat} {t f g : Nat → Int32} (hp : p ≤ 7) (h : tj_ends p m t f g) : ∀ e, e < m → ∀ i, bt (t e) i = true → i < p := by
  intro e he i hb
  obtain ⟨a, b, ha, hb', _, _, et⟩ := h e he
  rw [et, tj_tb (by omega) (by omega)] at hb
  omega
/-- the component's rounds and the reference's end alike -/
theorem tj_joined {p m : Nat} {t f g : Nat → Int32} (hm : 0 < m) (hp0 : 0 < p) (hp : p ≤ 7) (h : tj_ends p m t f g) : tj_it t m (t 0) p = tj_it t m ((1 : Int32) <<< (f 0 &&& 31)) 7 ∧ ∀ e, e < m → ((t e &&& tj_it t m (t 0) p) = 0 ↔ (tj_it t m (t 0) p >>> (f e &&& 31)) &&& 1 = 0) := by
  have ht := tj_ends_in hp h
  constructor
  · obtain ⟨i, j, hi, hj, ef, eg, et⟩ := h 0 hm
    have i32 : i < 32 := by omega
    have j32 : j < 32 := by omega
    rw [ef]
    refine tj_same hm hp0 hp ht ?_ ?_
    · have b1 : bt (t 0) i = true := by
        rw [et]
        exact (tj_tb i32 j32 i).mpr (Or.inl rfl)
      exact tj_nz b1 (by rw [tj_bs i32 i32]; exact decide_eq_true rfl)
    · rw [et, ← Int32.or_assoc, Int32.or_self]
  · intro e he
    obtain ⟨i, j, hi, hj, ef, eg, et⟩ := h e he
    rw [ef]
    exact tj_test (tj_it_fix ht (ht 0 hm)) he (by omega) (by omega) et
/-- the odd places and the weight of a set of the first m roads -/
def tj_X (o : Nat → Int32) (m : Nat) (s : Int32) : Int32 := tj_x o s m
def tj_S (h : Nat → Int32) (m : Nat) (s : Int32) : Int32 := tj_s h s m
/-- what the postman's last step answers -/
def tj_post (o h : Nat → Int32) (m : Nat) : Int32 := tj_w (tj_S h m) (tj_bst (tj_X o m) (tj_S h m) (tj_X o m (nI (2 ^ m - 1))) 0 0 (2 ^ m)).1
theorem tj_post_0 (o h : Nat → Int32) : tj_post o h 0 = 0 := by
  have e : tj_bst (tj_X o 0) (tj_S h 0) (tj_X o 0 (nI (2 ^ 0 - 1))) 0 0 (0 + 1) = (nI 0, tj_S h 0 (nI 0)) := tj_bst_t ⟨by decide, by decide, rfl⟩ (Or.inl rfl)
  show tj_w (tj_S h 0) (tj_bst (tj_X o 0) (tj_S h 0) (tj_X o 0 (nI (2 ^ 0 - 1))) 0 0 (0 + 1)).1 = 0
  rw [e]
  exact (tj_w_f (tj_nm1 (by decide))).trans rfl
