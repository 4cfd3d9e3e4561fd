/-! ===== the lowest bit ===== -/
theorem low_and {x t : Nat} (hx : x < 2 ^ 32) (hb : x.testBit t = true) (hl : ∀ i, i < t → x.testBit i = false) : (2 ^ 32 - 1 - x) &&& (x - 1) = 2 ^ t - 1 := by
  have hm : x % 2 ^ t = 0 := by
    refine set_ext (n := t) (Nat.mod_lt _ (Nat.two_pow_pos t)) (Nat.two_pow_pos t) (fun i hi => ?_)
    rw [Nat.testBit_mod_two_pow, hl i hi]
    simp
  have hp : 0 < 2 ^ t := Nat.two_pow_pos t
  obtain ⟨y, hy⟩ : ∃ y, x = 2 ^ t * y := ⟨x / 2 ^ t, by have := Nat.div_add_mod x (2 ^ t); omega⟩
  have hyo : y.testBit 0 = true := by
    have h := Nat.testBit_two_pow_mul_add y (i := t) (b := 0) hp t
    rw [Nat.add_zero, ← hy, if_neg (Nat.lt_irrefl t), Nat.sub_self] at h
    rw [← h]; exact hb
  have hy1 : y % 2 = 1 := by simpa [Nat.testBit_zero] using hyo
  have hy0 : 1 ≤ y := by omega
  have e1 : x - 1 = 2 ^ t * (y - 1) + (2 ^ t - 1) := by
    rw [hy, Nat.mul_sub, Nat.mul_one]
    have : 2 ^ t * 1 ≤ 2 ^ t * y := Nat.mul_le_mul_left _ hy0
    omega
  apply Nat.eq_of_testBit_eq
  intro i
  rw [show 2 ^ 32 - 1 - x = 2 ^ 32 - (x + 1) by omega, Nat.testBit_and, Nat.testBit_two_pow_sub_succ hx, Nat.testBit_two_pow_sub_one, e1, Nat.testBit_two_pow_mul_add (y - 1) (by omega : 2 ^ t - 1 < 2 ^ t) i]
  have ex : x.testBit i = if i < t then false else y.testBit (i - t) := by
    have h := Nat.testBit_two_pow_mul_add y (i := t) (b := 0) hp i
    rw [Nat.add_zero, ← hy] at h
    rw [h]
    split <;> simp
  by_cases hi : i < t
  · have h32 : i < 32 := by
      rcases Nat.lt_or_ge t 32 with q | q
      · omega
      · rw [tb_big hx q] at hb; cases hb
    rw [if_pos hi, ex, if_pos hi]
    simp [hi, h32, Nat.testBit_two_pow_sub_one]
  · rw [if_neg hi, ex, if_neg hi]
    simp only [hi, decide_false]
    by_cases he : i = t
    · subst he
      rw [Nat.sub_self, hyo]
      simp
    · obtain ⟨j, hj⟩ : ∃ j, i - t = j + 1 := ⟨i - t - 1, by omega⟩
      rw [hj, Nat.testBit_succ, Nat.testBit_succ, show (y - 1) / 2 = y / 2 by omega]
      cases (y / 2).testBit j <;> simp
theorem ntz_rest {Q : Int32 → Prop} : ∀ t, t < 24 → Q (nI t) → (0 < nI (2 ^ t - 1) → ((nI (2 ^ t - 1) ≤ 65536 → (wp_J6_numberOfTrailingZeros_0f7a4_j34 Q (nI (2 ^ t - 1)) 1)) ∧ (¬ nI (2 ^ t - 1) ≤ 65536 → (∀ x13 : Int32, x13 = 1 + 16 → ∀ x14 : Int32, x14 = (jushr (nI (2 ^ t - 1)) 16) → wp_J6_numberOfTrailingZeros_0f7a4_j34 Q x14 x13)))) ∧ (¬ 0 < nI (2 ^ t - 1) → (Q (nI (2 ^ t - 1) &&& 32))) := by
  intro t ht h
  have key : t = 0 ∨ t = 1 ∨ t = 2 ∨ t = 3 ∨ t = 4 ∨ t = 5 ∨ t = 6 ∨ t = 7 ∨ t = 8 ∨ t = 9 ∨ t = 10 ∨ t = 11 ∨ t = 12 ∨ t = 13 ∨ t = 14 ∨ t = 15 ∨ t = 16 ∨ t = 17 ∨ t = 18 ∨ t = 19 ∨ t = 20 ∨ t = 21 ∨ t = 22 ∨ t = 23 := by omega
  unfold wp_J6_numberOfTrailingZeros_0f7a4_j34 wp_J6_numberOfTrailingZeros_0f7a4_j49 wp_J6_numberOfTrailingZeros_0f7a4_j62 wp_J6_numberOfTrailingZeros_0f7a4_j74
  rcases key with rfl | rfl | rfl | rfl | rfl | rfl | rfl | rfl | rfl | rfl | rfl | rfl | rfl | rfl | rfl | rfl | rfl | rfl | rfl | rfl | rfl | rfl | rfl | rfl
  all_goals
    repeat' first
      | exact (congrArg Q (by decide +kernel : _ = nI _)).mpr h
      | refine ⟨fun _ => ?_, fun q => absurd q (by decide +kernel)⟩
      | refine ⟨fun q => absurd q (by decide +kernel), fun _ => ?_⟩
      | (intro x e; subst e)
theorem sp_ntz {x t : Nat} {Q : Int32 → Prop} (hx : x < 2 ^ 24) (hb : x.testBit t = true) (hl : ∀ i, i < t → x.testBit i = false) (h : Q (nI t)) : wp_J6_numberOfTrailingZeros_0f7a4 (nI x) Q := by
  have ht : t < 24 := by
    rcases Nat.lt_or_ge t 24 with q | q
    · exact q
    · rw [tb_big hx q] at hb; cases hb
  have hx0 : 1 ≤ x := by
    rcases Nat.eq_zero_or_pos x with q | q
    · rw [q] at hb; simp at hb
    · exact q
  unfold wp_J6_numberOfTrailingZeros_0f7a4
  intro x10 e10
  rw [J_not (by omega), show (1 : Int32) = nI 1 from rfl, pk_sub hx0, fa_and, low_and (by omega) hb hl] at e10
  subst e10
  exact ntz_rest t ht h
theorem sp_firstFree {s T : Nat} {Q : Int32 → Prop} (hs : s < 2 ^ 32) (hT : T < 32) (hb : s.testBit T = false) (hl : ∀ i, i < T → s.testBit i = true) (h : Q (nI T)) : wp_X10_firstFree (nI s) Q := by
  unfold wp_X10_firstFree
  refine lp_up (P := fun k j => wp_X10_firstFree_h2 Q k (nI s) (nI j)) (a := 0) (n := T) (by omega) ⟨1, ?_⟩ (fun j _ hj ⟨k, hk⟩ => ⟨k + 1, ?_⟩)
  · unfold wp_X10_firstFree_h2
    refine sp_has hs hT ?_
    rw [hb]
    exact ⟨fun _ => h, fun q => absurd rfl q⟩
  · unfold wp_X10_firstFree_h2
    refine sp_has hs (by omega) ?_
    rw [hl j hj]
    refine ⟨fun q => absurd q (by decide), fun _ => ?_⟩
    intro x e
    rw [nI_1] at e
    rw [e]
    exact hk
/-! ===== is it within bounds ===== -/
theorem cmp_lt (x y : Int64) : lg_cmp x y < 0 ↔ x.toInt < y.toInt := by
  unfold lg_cmp
  rw [← fa_lt64 x y]
  by_cases h1 : x > y
  · rw [if_pos h1]
    have h2 : y.toInt < x.toInt := (fa_lt64 y x).mp h1
    constructor
    · intro q; exact absurd q (by decide)
    · intro q
      have := (fa_lt64 x y).mp q
      omega
  · rw [if_neg h1]
    by_cases h2 : x = y
    · rw [if_pos h2]
      constructor
      · intro q; exact absurd q (by decide)
      · intro q
        have := (fa_lt64 x y).mp q
        rw [h2] at this
        omega
    · rw [if_neg h2]
      constructor
      · intro _
        have h3 : ¬ y.toInt < x.toInt := fun q => h1 ((fa_lt64 y x).mpr q)
        have h4 : x.toInt ≠ y.toInt := fun q => h2 ((fa_eq64 x y).mpr q)
        exact (fa_lt64 x y).mpr (by omega)
      · intro _; decide
theorem cmp_gt (x y : Int64) : 0 < lg_cmp x y ↔ y.toInt < x.toInt := by
  unfold lg_cmp
  by_cases h1 : x > y
  · rw [if_pos h1]
    exact ⟨fun _ => (fa_lt64 y x).mp h1, fun _ => by decide⟩
  · rw [if_neg h1]
    have h3 : ¬ y.toInt < x.toInt := fun q => h1 ((fa_lt64 y x).mpr q)
    split
    · exact ⟨fun q => absurd q (by decide), fun q => absurd q h3⟩
    · exact ⟨fun q => absurd q (by decide), fun q => absurd q h3⟩
theorem sp_in {x : Int32} {lo hi : Int64} {a b : Int} {Q : Int32 → Prop} (h1 : lo.toInt = a) (h2 : hi.toInt = b) (hT : a ≤ x.toInt → x.toInt ≤ b → Q 1) (hF : x.toInt < a ∨ b < x.toInt → Q 0) : wp_X10_in x.toInt64 lo hi Q := by
  have e := Int32.toInt_toInt64 x
  unfold wp_X10_in wp_X10_in_j17 wp_X10_in_j18
  rw [cmp_lt, cmp_gt, e, h1, h2]
  refine ⟨fun q => ⟨isB0, hF (Or.inl q)⟩, fun q => ⟨fun q2 => ⟨isB0, hF (Or.inr q2)⟩, fun q2 => ⟨isB1, hT (by omega) (by omega)⟩⟩⟩
theorem sp_isBeat9T {j n : Nat} {Q : Int32 → Prop} (hj : j < n) (hn : n < 2 ^ 31) (h : Q 1) : wp_X9_isBeat (nI n) (nI j) Q := by
  unfold wp_X9_isBeat wp_X9_isBeat_j16 wp_X9_isBeat_j17
  exact br_f (nI_pos (by omega)) (br_f (nI_ge hj hn) ⟨isB1, h⟩)
theorem sp_isBeat9F {n : Nat} {x : Int32} {Q : Int32 → Prop} (hx : x < 0 ∨ nI n ≤ x) (h : Q 0) : wp_X9_isBeat (nI n) x Q := by
  unfold wp_X9_isBeat wp_X9_isBeat_j16 wp_X9_isBeat_j17
  by_cases h0 : x < 0
  · exact br_t h0 ⟨isB0, h⟩
  · exact br_f h0 (br_t (hx.resolve_left h0) ⟨isB0, h⟩)
theorem J_pred64 {n : Nat} (h0 : 0 < n) (hn : n < 2 ^ 31) : ((nI n - 1 : Int32).toInt64).toInt = (n : Int) - 1 := by
  rw [Int32.toInt_toInt64, show (1 : Int32) = nI 1 from rfl, pk_sub h0, nI_toInt (by omega)]
  omega
theorem sp_isBeat10T {j n : Nat} {Q : Int32 → Prop} (hj : j < n) (hn : n < 2 ^ 31) (h : Q 1) : wp_X10_isBeat (nI n) (nI j) Q := by
  unfold wp_X10_isBeat
  refine sp_in (a := 0) (b := (n : Int) - 1) (by decide) (J_pred64 (by omega) hn) (fun _ _ => ⟨isB1, h⟩) (fun q => ?_)
  rw [nI_toInt (by omega)] at q
  omega
theorem sp_isBeat10F {n : Nat} {x : Int32} {Q : Int32 → Prop} (h0 : 0 < n) (hn : n < 2 ^ 31) (hx : x < 0 ∨ nI n ≤ x) (h : Q 0) : wp_X10_isBeat (nI n) x Q := by
  unfold wp_X10_isBeat
  refine sp_in (a := 0) (b := (n : Int) - 1) (by decide) (J_pred64 h0 hn) (fun q1 q2 => ?_) (fun _ => ⟨isB0, h⟩)
  rcases hx with hx | hx
  · rw [fa_lt] at hx
    have : (0 : Int32).toInt = 0 := by decide
    omega
  · rw [fa_le, nI_toInt hn] at hx
    omega
/-! ===== gaps ===== -/
def kth (s k : Nat) : Nat := fa_first (fun j => s.testBit j && decide (fb_ct (fun i => s.testBit i) j = k)) 32
theorem kth_ok {n s k : Nat} (hs : s < 2 ^ n) (hn : n ≤ 32) (hk : k < bc s) : kth s k < n ∧ s.testBit (kth s k) = true ∧ fb_ct (fun i => s.testBit i) (kth s k) = k := by
  rw [bc_n hs hn] at hk
  obtain ⟨i, h1, h2, h3⟩ := fb_ct_kth hk
  have hlt : kth s k < 32 := by
    unfold kth
    rcases Nat.lt_or_ge (fa_first (fun j => s.testBit j && decide (fb_ct (fun i => s.testBit i) j = k)) 32) 32 with q | q
    · exact q
    · have := fa_first_no (fun j => s.testBit j && decide (fb_ct (fun i => s.testBit i) j = k)) 32 i (by omega)
      simp [h2, h3] at this
  have h4 := fa_first_yes _ 32 hlt
  rw [Bool.and_eq_true, decide_eq_true_eq] at h4
  have e : kth s k = i := fb_ct_kth_one (p := fun i => s.testBit i) h4.1 h2 (by rw [h3]; exact h4.2)
  exact ⟨by rw [e]; exact h1, h4.1, h4.2⟩
theorem kth_mono {n s a b : Nat} (hs : s < 2 ^ n) (hn : n ≤ 32) (hab : a < b) (hb : b < bc s) : kth s a < kth s b := by
  obtain ⟨_, _, h3⟩ := kth_ok hs hn (by omega : a < bc s)
  obtain ⟨_, _, h6⟩ := kth_ok hs hn hb
  rcases Nat.lt_or_ge (kth s a) (kth s b) with q | q
  · exact q
  · have := fb_ct_mono (fun i => s.testBit i) q
    omega
theorem kth_le {n s a b : Nat} (hs : s < 2 ^ n) (hn : n ≤ 32) (hab : a ≤ b) (hb : b < bc s) : kth s a ≤ kth s b := by
  rcases Nat.lt_or_ge a b with q | q
  · exact Nat.le_of_lt (kth_mono hs hn q hb)
  · rw [show a = b by omega]; exact Nat.le_refl _
theorem sp_struckAt {n s k : Nat} {Q : Int32 → Prop} (hn : n ≤ 24) (hs : s < 2 ^ n) (hk : k < bc s) (h : Q (nI (kth s k))) : wp_X6_struckAt (nI n) (nI s) (nI k) Q := by
  have hp : 2 ^ n ≤ 2 ^ 24 := Nat.pow_le_pow_right (by omega) hn
  obtain ⟨h1, h2, h3⟩ := kth_ok hs (by omega) hk
  have hbc := bc_le hs (by omega : n ≤ 32)
  generalize kth s k = T at h h1 h2 h3
  unfold wp_X6_struckAt
  refine lp_up (P := fun z j => wp_X6_struckAt_h5 Q z (nI n) (nI s) (nI (k - fb_ct (fun i => s.testBit i) j)) (nI j)) (a := 0) (n := T) (by omega) ⟨1, ?_⟩ (fun j _ hj ⟨z, hz⟩ => ⟨z + 1, ?_⟩)
  · unfold wp_X6_struckAt_h5
    refine br_f (nI_ge h1 (by omega)) ?_
    refine sp_bit (by omega) (by omega) ?_
    rw [h2, h3, Nat.sub_self]
    exact ⟨fun q => absurd rfl q, fun _ => ⟨fun q => absurd rfl q, fun _ => h⟩⟩
  · have hct : fb_ct (fun i => s.testBit i) (j + 1) ≤ k := by rw [← h3]; exact fb_ct_mono _ hj
    have hct2 : fb_ct (fun i => s.testBit i) (j + 1) = fb_ct (fun i => s.testBit i) j + if s.testBit j then 1 else 0 := fb_ct_succ _ j
    unfold wp_X6_struckAt_h5
    refine br_f (nI_ge (by omega) (by omega)) ?_
    refine sp_bit (by omega) (by omega) ?_
    have step : ∀ (x : Int32), x = nI (k - fb_ct (fun i => s.testBit i) (j + 1)) → wp_X6_struckAt_j31 (wp_X6_struckAt_h5 Q z) Q (nI n) (nI s) x (nI j) := by
      intro x hx
      unfold wp_X6_struckAt_j31
      intro x1 e1
      rw [nI_1] at e1
      rw [hx, e1]
      exact hz
    cases hb : s.testBit j
    · rw [hb, if_neg (by decide), Nat.add_zero] at hct2
      refine ⟨fun _ => step _ (by rw [hct2]; rfl), fun q => absurd q (by decide)⟩
    · rw [hb, if_pos rfl] at hct2
      refine ⟨fun q => absurd rfl q, fun _ => ⟨fun _ => ?_, fun q => ?_⟩⟩
      · intro x6 e6
        refine step x6 ?_
        rw [e6, sb_m1 (by omega), hct2, Nat.sub_sub]
      · rw [J_eq0 (by omega)] at q
        omega
/-- the k-th gap -/
def gp (n s k : Nat) : Nat := if k + 1 < bc s then kth s (k + 1) - kth s k else kth s 0 + n - kth s k
theorem gp_pos {n s k : Nat} (hs : s < 2 ^ n) (hn : n ≤ 32) (hk : k < bc s) : 1 ≤ gp n s k ∧ gp n s k ≤ n := by
  have h1 := (kth_ok hs hn hk).1
  unfold gp
  by_cases hc : k + 1 < bc s
  · rw [if_pos hc]
    have h2 := kth_mono hs hn (Nat.lt_add_one k) hc
    have h3 := (kth_ok hs hn hc).1
    omega
  · rw [if_neg hc]
    have h2 := kth_le hs hn (Nat.zero_le k) hk
    omega
theorem sp_gapAtT {n s k : Nat} {Q : Int32 → Prop} (hn : n ≤ 24) (hs : s < 2 ^ n) (hk : k < bc s) (h : Q (nI (gp n s k))) : wp_X6_gapAt (nI n) (nI s) (nI k) Q := by
  have hp : 2 ^ n ≤ 2 ^ 24 := Nat.pow_le_pow_right (by omega) hn
  have hbc := bc_le hs (by omega : n ≤ 32)
  have h1 := (kth_ok hs (by omega) hk).1
  unfold wp_X6_gapAt wp_X6_gapAt_j14 wp_X6_gapAt_j56
  refine sp_bitCount (by omega) ?_
  refine br_f (nI_pos (by omega)) (br_t (nI_lt hk (by omega)) ?_)
  refine sp_struckAt hn hs hk ?_
  rw [nI_1]
  unfold gp at h
  refine b_le (by omega) (by omega) (fun q => ?_) (fun q => ?_)
  · rw [if_neg (by omega)] at h
    have h0 := kth_le hs (by omega) (Nat.zero_le k) hk
    refine sp_struckAt (k := 0) hn hs (by omega) ?_
    rw [nI_add, pk_sub (by omega)]
    exact h
  · rw [if_pos q] at h
    refine sp_struckAt hn hs q ?_
    rw [pk_sub (Nat.le_of_lt (kth_mono hs (by omega) (Nat.lt_add_one k) q))]
    exact h
theorem sp_gapAtF {n s : Nat} {x : Int32} {Q : Int32 → Prop} (hn : n ≤ 24) (hs : s < 2 ^ n) (hx : x < 0 ∨ nI (bc s) ≤ x) (h : Q (-1)) : wp_X6_gapAt (nI n) (nI s) x Q := by
  have hp : 2 ^ n ≤ 2 ^ 24 := Nat.pow_le_pow_right (by omega) hn
  unfold wp_X6_gapAt wp_X6_gapAt_j14 wp_X6_gapAt_j56
  refine sp_bitCount (by omega) ?_
  by_cases h0 : x < 0
  · exact br_t h0 h
  · refine br_f h0 (br_f ?_ h)
    have hx2 := hx.resolve_left h0
    rw [fa_le] at hx2
    rw [fa_lt]
    omega
def gl (n s : Nat) : Nat → Nat
  | 0 => gp n s 0
  | j + 1 => if gp n s (j + 1) < gl n s j then gp n s (j + 1) else gl n s j
def gg (n s : Nat) : Nat → Nat
  | 0 => gp n s 0
  | j + 1 => if gg n s j < gp n s (j + 1) then gp n s (j + 1) else gg n s j
theorem gl_pos {n s : Nat} (hs : s < 2 ^ n) (hn : n ≤ 32) : ∀ j, j < bc s → 1 ≤ gl n s j ∧ gl n s j ≤ n
  | 0, h => gp_pos hs hn h
  | j + 1, h => by
    have ih := gl_pos hs hn j (by omega)
    have h2 := gp_pos hs hn h
    unfold gl
    split
    · exact h2
    · exact ih
theorem gg_pos {n s : Nat} (hs : s < 2 ^ n) (hn : n ≤ 32) : ∀ j, j < bc s → 1 ≤ gg n s j ∧ gg n s j ≤ n
  | 0, h => gp_pos hs hn h
  | j + 1, h => by
    have ih := gg_pos hs hn j (by omega)
    have h2 := gp_pos hs hn h
    unfold gg
    split
    · exact h2
    · exact ih
theorem sp_leastGap {n s : Nat} {Q : Int32 → Prop} (hn : n ≤ 24) (hs : s < 2 ^ n) (h : Q (if bc s = 0 then -1 else nI (gl n s (bc s - 1)))) : wp_X6_leastGap (nI n) (nI s) Q := by
  have hp : 2 ^ n ≤ 2 ^ 24 := Nat.pow_le_pow_right (by omega) hn
  have hbc := bc_le hs (by omega : n ≤ 32)
  unfold wp_X6_leastGap
  by_cases h0 : bc s = 0
  · rw [if_pos h0] at h
    refine sp_gapAtF hn hs (Or.inr (by rw [h0]; decide)) ⟨1, ?_⟩
    unfold wp_X6_leastGap_h9
    refine sp_bitCount (by omega) ?_
    rw [h0]
    exact br_t (by decide) h
  · rw [if_neg h0] at h
    refine sp_gapAtT (k := 0) hn hs (by omega) ?_
    refine lp_up (P := fun z j => wp_X6_leastGap_h9 Q z (nI n) (nI s) (nI (gl n s (j - 1))) (nI j)) (a := 1) (n := bc s) (by omega) ⟨1, ?_⟩ (fun j h1 hj ⟨z, hz⟩ => ⟨z + 1, ?_⟩)
    · unfold wp_X6_leastGap_h9
      refine sp_bitCount (by omega) ?_
      exact br_t (nI_le (Nat.le_refl _) (by omega)) h
    · unfold wp_X6_leastGap_h9
      refine sp_bitCount (by omega) ?_
      refine br_f (nI_ge hj (by omega)) ?_
      refine sp_gapAtT hn hs hj ?_
      have g1 := gp_pos hs (by omega) hj
      have g2 := gl_pos hs (by omega) (j - 1) (by omega)
      have e9 : gl n s j = if gp n s j < gl n s (j - 1) then gp n s j else gl n s (j - 1) := by
        obtain ⟨i, rfl⟩ : ∃ i, j = i + 1 := ⟨j - 1, by omega⟩
        rfl
      intro x4 e4 x5 e5
      rw [nI_1] at e5
      have e6 : x4 = nI (gl n s j) := by
        rw [e4, e9]
        by_cases q : gp n s j < gl n s (j - 1)
        · rw [if_pos q, if_pos (nI_lt q (by omega))]
        · rw [if_neg q, if_neg (nI_nlt (by omega) (by omega))]
      rw [e5, e6]
      exact hz
theorem sp_greatestGap {n s : Nat} {Q : Int32 → Prop} (hn : n ≤ 24) (hs : s < 2 ^ n) (h : Q (if bc s = 0 then -1 else nI (gg n s (bc s - 1)))) : wp_X6_greatestGap (nI n) (nI s) Q := by
  have hp : 2 ^ n ≤ 2 ^ 24 := Nat.pow_le_pow_right (by omega) hn
  have hbc := bc_le hs (by omega : n ≤ 32)
  unfold wp_X6_greatestGap
  by_cases h0 : bc s = 0
  · rw [if_pos h0] at h
    refine sp_gapAtF hn hs (Or.inr (by rw [h0]; decide)) ⟨1, ?_⟩
    unfold wp_X6_greatestGap_h9
    refine sp_bitCount (by omega) ?_
    rw [h0]
    exact br_t (by decide) h
  · rw [if_neg h0] at h
    refine sp_gapAtT (k := 0) hn hs (by omega) ?_
    refine lp_up (P := fun z j => wp_X6_greatestGap_h9 Q z (nI n) (nI s) (nI (gg n s (j - 1))) (nI j)) (a := 1) (n := bc s) (by omega) ⟨1, ?_⟩ (fun j h1 hj ⟨z, hz⟩ => ⟨z + 1, ?_⟩)
    · unfold wp_X6_greatestGap_h9
      refine sp_bitCount (by omega) ?_
      exact br_t (nI_le (Nat.le_refl _) (by omega)) h
    · unfold wp_X6_greatestGap_h9
      refine sp_bitCount (by omega) ?_
      refine br_f (nI_ge hj (by omega)) ?_
      refine sp_gapAtT hn hs hj ?_
      have g1 := gp_pos hs (by omega) hj
      have g2 := gg_pos hs (by omega) (j - 1) (by omega)
      have e9 : gg n s j = if gg n s (j - 1) < gp n s j then gp n s j else gg n s (j - 1) := by
        obtain ⟨i, rfl⟩ : ∃ i, j = i + 1 := ⟨j - 1, by omega⟩
        rfl
      intro x4 e4 x5 e5
      rw [nI_1] at e5
      have e6 : x4 = nI (gg n s j) := by
        rw [e4, e9]
        by_cases q : gg n s (j - 1) < gp n s j
        · rw [if_pos q, if_pos (nI_lt q (by omega))]
        · rw [if_neg q, if_neg (nI_nlt (by omega) (by omega))]
      rw [e5, e6]
      exact hz
