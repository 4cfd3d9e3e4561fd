/-! ===== sets of beats as numbers ===== -/
/-- moved by t ≤ n, of n beats -/
def mv (n s t : Nat) : Nat := (s * 2 ^ t ||| s / 2 ^ (n - t)) % 2 ^ n
theorem mv_lt (n s t : Nat) : mv n s t < 2 ^ n := Nat.mod_lt _ (Nat.two_pow_pos n)
theorem tb_big {n s i : Nat} (hs : s < 2 ^ n) (hi : n ≤ i) : s.testBit i = false := Nat.testBit_lt_two_pow (Nat.lt_of_lt_of_le hs (Nat.pow_le_pow_right (by omega) hi))
theorem mv_tb {n s t i : Nat} (hs : s < 2 ^ n) (ht : t < n) (hi : i < n) : (mv n s t).testBit i = s.testBit ((i + n - t) % n) := by
  unfold mv
  rw [Nat.testBit_mod_two_pow, Nat.testBit_or, Nat.testBit_mul_two_pow, Nat.testBit_div_two_pow]
  simp only [hi, decide_true, Bool.true_and]
  by_cases h : t ≤ i
  · rw [show i + n - t = (i - t) + n by omega, Nat.add_mod_right, Nat.mod_eq_of_lt (by omega)]
    simp only [h, decide_true, Bool.true_and]
    rw [tb_big hs (by omega : n ≤ i + (n - t))]
    simp
  · rw [Nat.mod_eq_of_lt (by omega)]
    simp only [h, decide_false, Bool.false_and, Bool.false_or]
    rw [show i + (n - t) = i + n - t by omega]
theorem set_ext {n a b : Nat} (ha : a < 2 ^ n) (hb : b < 2 ^ n) (h : ∀ i, i < n → a.testBit i = b.testBit i) : a = b := by
  apply Nat.eq_of_testBit_eq
  intro i
  by_cases hi : i < n
  · exact h i hi
  · rw [tb_big ha (by omega), tb_big hb (by omega)]
theorem mv_0 {n s : Nat} (hs : s < 2 ^ n) (hn : 0 < n) : mv n s 0 = s := by
  refine set_ext (mv_lt _ _ _) hs (fun i hi => ?_)
  rw [mv_tb hs hn hi, show i + n - 0 = i + n by omega, Nat.add_mod_right, Nat.mod_eq_of_lt hi]
theorem mv_n {n s : Nat} (hs : s < 2 ^ n) : mv n s n = s := by
  unfold mv
  rw [Nat.sub_self, Nat.pow_zero, Nat.div_one]
  apply Nat.eq_of_testBit_eq
  intro i
  rw [Nat.testBit_mod_two_pow, Nat.testBit_or, Nat.testBit_mul_two_pow]
  by_cases hi : i < n
  · simp [hi, show ¬ n ≤ i by omega]
  · simp [hi, tb_big hs (by omega : n ≤ i)]
theorem mv_mv {n s t u : Nat} (hs : s < 2 ^ n) (ht : t < n) (hu : u < n) : mv n (mv n s t) u = mv n s ((t + u) % n) := by
  refine set_ext (mv_lt _ _ _) (mv_lt _ _ _) (fun i hi => ?_)
  have hm : (t + u) % n < n := Nat.mod_lt _ (by omega)
  rw [mv_tb (mv_lt _ _ _) hu hi, mv_tb hs ht (Nat.mod_lt _ (by omega)), mv_tb hs hm hi]
  congr 1
  have e : (t + u) % n = t + u ∨ (t + u) % n + n = t + u := by
    by_cases h : t + u < n
    · exact Or.inl (Nat.mod_eq_of_lt h)
    · right
      rw [Nat.mod_eq_sub_mod (by omega), Nat.mod_eq_of_lt (by omega)]
      omega
  have e2 : (i + n - u) % n = i + n - u ∨ (i + n - u) % n + n = i + n - u := by
    by_cases h : i + n - u < n
    · exact Or.inl (Nat.mod_eq_of_lt h)
    · right
      rw [Nat.mod_eq_sub_mod (by omega), Nat.mod_eq_of_lt (by omega)]
      omega
  generalize (t + u) % n = v at e hm ⊢
  generalize hw : (i + n - u) % n = w at e2 ⊢
  have hwn : w < n := by rw [← hw]; exact Nat.mod_lt _ (by omega)
  have m1 : ∀ x, x < 2 * n → x % n = if x < n then x else x - n := by
    intro x hx
    split
    · exact Nat.mod_eq_of_lt (by assumption)
    · rw [Nat.mod_eq_sub_mod (by omega), Nat.mod_eq_of_lt (by omega)]
  rw [m1 (w + n - t) (by omega), m1 (i + n - v) (by omega)]
  split <;> split <;> omega
/-- moved back -/
theorem mv_back {n s t : Nat} (hs : s < 2 ^ n) (ht : t < n) : mv n (mv n s t) ((n - t) % n) = s := by
  by_cases h0 : t = 0
  · subst h0
    rw [Nat.sub_zero, Nat.mod_self, mv_0 (mv_lt _ _ _) (by omega), mv_0 hs (by omega)]
  · rw [Nat.mod_eq_of_lt (by omega : n - t < n), mv_mv hs ht (by omega), show t + (n - t) = n by omega, Nat.mod_self, mv_0 hs (by omega)]
/-- how many bits -/
def bc (s : Nat) : Nat := fb_ct (fun i => s.testBit i) 32
theorem bc_n {n s : Nat} (hs : s < 2 ^ n) (hn : n ≤ 32) : bc s = fb_ct (fun i => s.testBit i) n := by
  unfold bc
  have h := fb_ct_split (fun i => s.testBit i) n (32 - n)
  rw [show n + (32 - n) = 32 by omega] at h
  rw [h, (fb_ct_zero (p := fun k => s.testBit (n + k)) (n := 32 - n)).mpr (fun k _ => tb_big hs (by omega))]
  rfl
theorem bc_le {n s : Nat} (hs : s < 2 ^ n) (hn : n ≤ 32) : bc s ≤ n := by rw [bc_n hs hn]; exact fb_ct_le _ n
theorem bc_0 : bc 0 = 0 := by decide
theorem bc_half {s : Nat} (hs : s < 2 ^ 32) : bc s = s % 2 + bc (s / 2) := by
  have h1 : bc (s / 2) = fb_ct (fun i => (s / 2).testBit i) 31 := bc_n (by omega) (by omega)
  have h := fb_ct_split (fun i => s.testBit i) 1 31
  have e0 : s.testBit 0 = decide (s % 2 = 1) := by rw [Nat.testBit_eq_decide_div_mod_eq]; simp
  have e1 : fb_ct (fun i => s.testBit i) 1 = s % 2 := by
    show 0 + (if s.testBit 0 then 1 else 0) = s % 2
    rw [e0]
    rcases Nat.mod_two_eq_zero_or_one s with q | q <;> simp [q]
  have e2 : fb_ct (fun k => s.testBit (1 + k)) 31 = fb_ct (fun i => (s / 2).testBit i) 31 := fb_ct_cong (fun k _ => by rw [Nat.add_comm, Nat.testBit_succ])
  unfold bc
  rw [show (32 : Nat) = 1 + 31 from rfl, h, e1, e2, ← h1]
  rfl
theorem bc_eq0 {s : Nat} (hs : s < 2 ^ 32) : bc s = 0 ↔ s = 0 := by
  constructor
  · intro h
    refine set_ext hs (by decide) (fun i hi => ?_)
    rw [fb_ct_zero.mp h i hi]
    simp
  · intro h
    rw [h]; exact bc_0
/-! ===== and, by parts ===== -/
theorem and_mask {k j a m : Nat} (ha : a < 2 ^ k) (hm : m < 2 ^ k) : (a + 2 ^ k * j) &&& m = a &&& m := by
  apply Nat.eq_of_testBit_eq
  intro i
  rw [Nat.testBit_and, Nat.testBit_and]
  by_cases hi : i < k
  · congr 1
    have h : ((a + 2 ^ k * j) % 2 ^ k).testBit i = (a + 2 ^ k * j).testBit i := by rw [Nat.testBit_mod_two_pow]; simp [hi]
    rw [← h, Nat.add_mul_mod_self_left, Nat.mod_eq_of_lt ha]
  · rw [tb_big hm (by omega)]; simp
theorem and_dig {k a b c d : Nat} (ha : a < 2 ^ k) (hc : c < 2 ^ k) : (a + 2 ^ k * b) &&& (c + 2 ^ k * d) = (a &&& c) + 2 ^ k * (b &&& d) := by
  have hac : a &&& c < 2 ^ k := Nat.and_lt_two_pow a hc
  apply Nat.eq_of_testBit_eq
  intro i
  have key : ∀ {x y : Nat}, x < 2 ^ k → (x + 2 ^ k * y).testBit i = if i < k then x.testBit i else y.testBit (i - k) := by
    intro x y hx
    rw [Nat.add_comm, Nat.testBit_two_pow_mul_add y hx]
  rw [Nat.testBit_and, key ha, key hc, key hac, Nat.testBit_and, Nat.testBit_and]
  split <;> rfl
