/-! ===== numbers: Int32 texts as nI of numbers ===== -/
theorem J_and31 {k : Nat} (hk : k < 32) : nI k &&& 31 = nI k := by
  have h := fa_mask k 5
  rw [Nat.mod_eq_of_lt (by omega)] at h
  exact h
theorem J_shl {a k : Nat} (hk : k < 32) (h : a * 2 ^ k < 2 ^ 32) : nI a <<< (nI k &&& 31) = nI (a * 2 ^ k) := pk_shlN _ k (s_l k hk) h
theorem J_shl1 {k : Nat} (hk : k < 32) : (1 : Int32) <<< (nI k &&& 31) = nI (2 ^ k) := by
  have h := J_shl (a := 1) hk (by rw [Nat.one_mul]; exact Nat.pow_lt_pow_right (by omega) hk)
  rw [Nat.one_mul] at h
  exact h
theorem J_shr {a k : Nat} (ha : a < 2 ^ 31) (hk : k < 32) : nI a >>> (nI k &&& 31) = nI (a / 2 ^ k) := pk_shrN ha _ k (s_l k hk)
theorem J_ushr {a k : Nat} (ha : a < 2 ^ 32) (hk : k < 32) : jushr (nI a) (nI k) = nI (a / 2 ^ k) := pk_ushrN ha _ k (s_u k hk)
theorem J_bit1 (a : Nat) : nI a &&& 1 = nI (a % 2) := fa_mask a 1
theorem J_eq0 {a : Nat} (h : a < 2 ^ 31) : nI a = 0 ↔ a = 0 := nI_eq (b := 0) h (by decide)
theorem J_eq1 {a : Nat} (h : a < 2 ^ 31) : nI a = 1 ↔ a = 1 := nI_eq (b := 1) h (by decide)
theorem J_cl {a : Nat} (h : a < 2 ^ 31) : (nI a).toNatClampNeg = a := nI_clamp h
theorem J_tb (s i : Nat) : s / 2 ^ i % 2 = (s.testBit i).toNat := by
  rw [Nat.testBit_eq_decide_div_mod_eq]
  rcases Nat.mod_two_eq_zero_or_one (s / 2 ^ i) with h | h <;> simp [h]
theorem J_not {a : Nat} (h : a < 2 ^ 32) : nI a ^^^ (-1) = nI (2 ^ 32 - 1 - a) := by
  have e : (-1 : Int32) = nI (2 ^ 32 - 1) := by decide
  rw [e, nx_xor]
  refine congrArg nI ?_
  apply Nat.eq_of_testBit_eq
  intro i
  have e2 : 2 ^ 32 - 1 - a = 2 ^ 32 - (a + 1) := by omega
  rw [Nat.testBit_xor, Nat.testBit_two_pow_sub_one, e2, Nat.testBit_two_pow_sub_succ h]
  by_cases hi : i < 32
  · simp [hi]
  · simp [hi, Nat.testBit_lt_two_pow (Nat.lt_of_lt_of_le h (Nat.pow_le_pow_right (by omega) (by omega : 32 ≤ i)))]
theorem J_neg {d n : Nat} (hd : d < 2 ^ 30) (h0 : 0 < n) (hn : n < 2 ^ 30) : (-nI d) / nI n = -nI (d / n) := by
  have hq : d / n ≤ d := Nat.div_le_self d n
  have e1 : (d : Int) / (n : Int) = ((d / n : Nat) : Int) := by first | rfl | exact (Int.natCast_ediv _ _).symm
  generalize d / n = q at hq e1 ⊢
  apply Int32.toInt_inj.mp
  rw [Int32.toInt_div, sb_negT (by omega), nI_toInt (by omega), sb_negT (by omega), Int.neg_tdiv, Int.tdiv_eq_ediv_of_nonneg (by omega), e1, Int.bmod_eq_of_le (by omega) (by omega)]
/-- a choice of the branch by a Nat fact -/
theorem b_le {a b : Nat} {A B : Prop} (ha : a < 2 ^ 31) (hb : b < 2 ^ 31) (f : a ≤ b → A) (g : b < a → B) : (nI a ≤ nI b → A) ∧ (¬ nI a ≤ nI b → B) :=
  ⟨fun h => f ((nI_leI ha hb).mp h), fun h => g (Nat.lt_of_not_le fun q => h ((nI_leI ha hb).mpr q))⟩
theorem b_lt {a b : Nat} {A B : Prop} (ha : a < 2 ^ 31) (hb : b < 2 ^ 31) (f : a < b → A) (g : b ≤ a → B) : (nI a < nI b → A) ∧ (¬ nI a < nI b → B) :=
  ⟨fun h => f ((nI_ltI ha hb).mp h), fun h => g (Nat.le_of_not_lt fun q => h ((nI_ltI ha hb).mpr q))⟩
theorem b_eq {a b : Nat} {A B : Prop} (ha : a < 2 ^ 31) (hb : b < 2 ^ 31) (f : a = b → A) (g : a ≠ b → B) : (nI a = nI b → A) ∧ (¬ nI a = nI b → B) :=
  ⟨fun h => f ((nI_eq ha hb).mp h), fun h => g (fun q => h ((nI_eq ha hb).mpr q))⟩
theorem b_ne {a b : Nat} {A B : Prop} (ha : a < 2 ^ 31) (hb : b < 2 ^ 31) (f : a ≠ b → A) (g : a = b → B) : (¬ nI a = nI b → A) ∧ (nI a = nI b → B) :=
  ⟨fun h => f (fun q => h ((nI_eq ha hb).mpr q)), fun h => g ((nI_eq ha hb).mp h)⟩
/-- a loop that counts up to its end -/
theorem lp_up {P : Nat → Nat → Prop} {a n : Nat} (ha : a ≤ n) (h0 : ∃ k, P k n) (hs : ∀ j, a ≤ j → j < n → (∃ k, P k (j + 1)) → ∃ k, P k j) : ∃ k, P k a := by
  have key : ∀ d, d ≤ n - a → ∃ k, P k (n - d) := by
    intro d
    induction d with
    | zero => intro _; exact h0
    | succ d ih =>
      intro hd
      obtain ⟨k, hk⟩ := ih (by omega)
      have e : n - d = (n - (d + 1)) + 1 := by omega
      rw [e] at hk
      exact hs (n - (d + 1)) (by omega) (by omega) ⟨k, hk⟩
  have h := key (n - a) (Nat.le_refl _)
  rwa [show n - (n - a) = a by omega] at h
/-! ===== the class's small functions ===== -/
theorem sp_full {n : Nat} {Q : Int32 → Prop} (hn : n ≤ 30) (h : Q (nI (2 ^ n - 1))) : wp_X6_full (nI n) Q := by
  unfold wp_X6_full
  rw [J_shl1 (by omega)]
  rw [show (1 : Int32) = nI 1 from rfl, pk_sub Nat.one_le_two_pow]
  exact h
theorem sp_bit {s i : Nat} {Q : Int32 → Prop} (hs : s < 2 ^ 31) (hi : i < 32) (h : Q (nI (s.testBit i).toNat)) : wp_X6_bit (nI s) (nI i) Q := by
  unfold wp_X6_bit
  rw [J_ushr (by omega) hi, J_bit1, J_tb]
  exact h
theorem sp_leftOver {a n : Nat} {Q : Int32 → Prop} (ha : a < 2 ^ 31) (h0 : 0 < n) (hn : n < 2 ^ 31) (h : Q (nI (a % n))) : wp_X6_leftOver (nI a) (nI n) Q := by
  have hlt : a % n < 2 ^ 31 := Nat.lt_of_lt_of_le (Nat.mod_lt a h0) (by omega)
  unfold wp_X6_leftOver
  refine br_t (nI_le (a := 1) h0 hn) ⟨nI_ne0 h0 hn, ?_⟩
  intro x hx
  rw [pk_rem ha h0 hn] at hx
  subst hx
  refine br_t (nI_pos' hlt) ?_
  unfold wp_X6_leftOver_j22
  exact h
theorem sp_leftOverS {a b n : Nat} {Q : Int32 → Prop} (ha : a < 2 ^ 20) (h0 : 0 < n) (hn : n < 2 ^ 20) (hb : b ≤ a + n) (h : Q (nI ((a + n - b) % n))) : wp_X6_leftOver (nI a - nI b) (nI n) Q := by
  by_cases hab : b ≤ a
  · rw [pk_sub hab]
    refine sp_leftOver (by omega) h0 (by omega) ?_
    rwa [show a + n - b = (a - b) + n by omega, Nat.add_mod_right] at h
  · have e : nI a - nI b = -nI (b - a) := by
      apply Int32.toInt_inj.mp
      rw [pk_sub_toInt (by omega) (by omega), sb_negT (by omega)]
      omega
    rw [e]
    unfold wp_X6_leftOver
    refine br_t (nI_le (a := 1) h0 (by omega)) ⟨nI_ne0 h0 (by omega), ?_⟩
    intro x hx
    rw [J_neg (by omega) h0 (by omega)] at hx
    by_cases hd : b - a < n
    · rw [Nat.div_eq_of_lt hd] at hx
      have hx2 : x = -nI (b - a) := by rw [hx]; simp [nI]
      have hlt : ¬ 0 ≤ x := by
        rw [hx2, Int32.le_iff_toInt_le, sb_negT (by omega)]
        simp
        omega
      refine br_f hlt ?_
      unfold wp_X6_leftOver_j22
      have e2 : x + nI n = nI ((a + n - b) % n) := by
        rw [Nat.mod_eq_of_lt (by omega), hx2]
        apply Int32.toInt_inj.mp
        rw [Int32.toInt_add, sb_negT (by omega), nI_toInt (by omega), nI_toInt (by omega), Int.bmod_eq_of_le (by omega) (by omega)]
        omega
      rw [e2]
      exact h
    · have hdn : b - a = n := by omega
      have hx2 : x = 0 := by
        rw [hx, hdn, Nat.div_self h0]
        apply Int32.toInt_inj.mp
        rw [Int32.neg_mul, show nI 1 * nI n = nI n by rw [pk_mul, Nat.one_mul]]
        simp
      rw [hx2]
      refine br_t (by decide) ?_
      unfold wp_X6_leftOver_j22
      have e2 : (a + n - b) % n = 0 := by rw [show a + n - b = 0 by omega]; exact Nat.zero_mod n
      rw [e2] at h
      exact h
theorem sp_quotient {a n : Nat} {Q : Int32 → Prop} (ha : a < 2 ^ 31) (h0 : 0 < n) (hn : n < 2 ^ 31) (h : Q (nI (a / n))) : wp_X6_quotient (nI a) (nI n) Q := by
  have e : nI a / nI n = nI (a / n) := pk_div ha h0 hn
  unfold wp_X6_quotient wp_X6_quotient_j12
  refine br_t (nI_le (a := 1) h0 hn) ⟨nI_ne0 h0 hn, ?_⟩
  rw [e]
  exact h
