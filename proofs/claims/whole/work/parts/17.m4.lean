/-! ===== small functions, both sides ===== -/
theorem J_tn (a : Nat) : (nI a).toBitVec.toNat = a % 2 ^ 32 := by
  show (BitVec.ofNat 32 a).toNat = a % 2 ^ 32
  exact BitVec.toNat_ofNat a 32
theorem J_inj {x y : Int32} (h : x.toBitVec.toNat = y.toBitVec.toNat) : x = y := Int32.toBitVec_inj.mp (BitVec.eq_of_toNat_eq h)
theorem J_mod (a : Nat) : nI a = nI (a % 2 ^ 32) := J_inj (by rw [J_tn, J_tn, Nat.mod_mod])
theorem J_shlM {a k : Nat} (hk : k < 32) : nI a <<< (nI k &&& 31) = nI (a * 2 ^ k) := by
  refine J_inj ?_
  rw [pk_shl _ _ k (s_l k hk), J_tn, J_tn, Nat.mod_mul_mod]
theorem sp_full10 {n : Nat} {Q : Int32 → Prop} (hn : n ≤ 30) (h : Q (nI (2 ^ n - 1))) : wp_X10_full (nI n) Q := by
  unfold wp_X10_full
  rw [J_shl1 (by omega), show (1 : Int32) = nI 1 from rfl, pk_sub Nat.one_le_two_pow]
  exact h
theorem J_sbit {s i : Nat} (hs : s < 2 ^ 32) (hi : i < 32) : (nI s >>> (nI i &&& 31)) &&& 1 = nI (s.testBit i).toNat := by
  have h1 := pk_and (nI s >>> (nI i &&& 31)) (m := 1) 1 (by decide)
  rw [h1, Nat.pow_one]
  refine congrArg nI ?_
  have h2 := b_sshr i hi (nI s) (i := 0) (by decide)
  rw [Nat.add_zero, if_pos hi] at h2
  have e1 : ∀ (x : Int32) (j : Nat), bt x j = x.toBitVec.toNat.testBit j := fun x j => by first | rfl | exact BitVec.testBit_toNat x.toBitVec |>.symm
  rw [e1, e1, J_tn, Nat.mod_eq_of_lt hs] at h2
  rw [← h2]
  have h3 := J_tb (nI s >>> (nI i &&& 31)).toBitVec.toNat 0
  rw [Nat.pow_zero, Nat.div_one] at h3
  exact h3
theorem sp_has {s i : Nat} {Q : Int32 → Prop} (hs : s < 2 ^ 32) (hi : i < 32) (h : Q (nI (s.testBit i).toNat)) : wp_X10_has (nI s) (nI i) Q := by
  unfold wp_X10_has wp_X10_has_j14
  rw [J_sbit hs hi]
  cases hb : s.testBit i
  · rw [hb] at h
    exact ⟨fun _ => ⟨isB0, h⟩, fun q => absurd q (by decide)⟩
  · rw [hb] at h
    exact ⟨fun q => absurd rfl q, fun _ => ⟨isB1, h⟩⟩
theorem sp_moved {n s t : Nat} {Q : Int32 → Prop} (h0 : 0 < n) (hn : n ≤ 24) (hs : s < 2 ^ n) (ht : t < 2 ^ 31) (h : Q (nI (mv n s (t % n)))) : wp_X6_moved (nI n) (nI s) (nI t) Q := by
  have hp : 2 ^ n ≤ 2 ^ 24 := Nat.pow_le_pow_right (by omega) hn
  have hb : t % n < n := Nat.mod_lt _ h0
  unfold wp_X6_moved
  refine sp_leftOver ht h0 (by omega) ?_
  refine sp_full (by omega) ?_
  rw [J_shlM (by omega), pk_sub (by omega), J_ushr (by omega) (by omega), fa_or, fa_mask]
  exact h
theorem sp_valueTurned {n s t : Nat} {Q : Int32 → Prop} (h0 : 0 < n) (hn : n ≤ 24) (hs : s < 2 ^ n) (ht : t ≤ n) (h : Q (nI (mv n s ((n - t) % n)))) : wp_X4_valueTurned (nI n) (nI s) (nI t) Q := by
  have hp : 2 ^ n ≤ 2 ^ 24 := Nat.pow_le_pow_right (by omega) hn
  have hb : (n - t) % n < n := Nat.mod_lt _ h0
  unfold wp_X4_valueTurned wp_X6_moved
  rw [show (-nI t) = nI 0 - nI t by simp [nI]]
  refine sp_leftOverS (a := 0) (b := t) (by omega) h0 (by omega) (by omega) ?_
  refine sp_full (by omega) ?_
  rw [show 0 + n - t = n - t by omega, J_shlM (by omega), pk_sub (by omega), J_ushr (by omega) (by omega), fa_or, fa_mask]
  exact h
theorem sp_moved10 {n s t : Nat} {Q : Int32 → Prop} (h0 : 0 < n) (hn : n ≤ 24) (hs : s < 2 ^ n) (ht : t < 2 ^ 31) (h : Q (nI (mv n s (t % n)))) : wp_X10_moved (nI s) (nI t) (nI n) Q := by
  have hp : 2 ^ n ≤ 2 ^ 24 := Nat.pow_le_pow_right (by omega) hn
  have hb : t % n < n := Nat.mod_lt _ h0
  unfold wp_X10_moved
  refine ⟨nI_ne0 h0 (by omega), ?_⟩
  intro x hx
  rw [pk_rem ht h0 (by omega)] at hx
  subst hx
  refine sp_full10 (by omega) ?_
  rw [J_shlM (by omega), pk_sub (by omega), J_shr (by omega) (by omega), fa_or, fa_mask]
  exact h
theorem sp_inverted {n s : Nat} {Q : Int32 → Prop} (hn : n ≤ 24) (hs : s < 2 ^ n) (h : Q (nI ((2 ^ n - 1) ^^^ s))) : wp_X6_inverted (nI n) (nI s) Q := by
  have hp : 2 ^ n ≤ 2 ^ 24 := Nat.pow_le_pow_right (by omega) hn
  unfold wp_X6_inverted
  refine sp_full (by omega) ?_
  rw [J_not (by omega), fa_and]
  have e : (2 ^ n - 1) &&& (2 ^ 32 - 1 - s) = (2 ^ n - 1) ^^^ s := by
    apply Nat.eq_of_testBit_eq
    intro i
    rw [show 2 ^ 32 - 1 - s = 2 ^ 32 - (s + 1) by omega, Nat.testBit_and, Nat.testBit_xor, Nat.testBit_two_pow_sub_one, Nat.testBit_two_pow_sub_succ (by omega)]
    by_cases hi : i < n
    · simp [hi, show i < 32 by omega]
    · simp [hi, tb_big hs (by omega : n ≤ i)]
  rw [e]
  exact h
/-- what a loop gathers: the places to which the bits go -/
def orf (s : Nat) (f : Nat → Nat) : Nat → Nat
  | 0 => 0
  | j + 1 => if s.testBit j then orf s f j ||| 2 ^ f j else orf s f j
theorem orf_lt {s n : Nat} {f : Nat → Nat} : ∀ {j : Nat}, (∀ k, k < j → f k < n) → orf s f j < 2 ^ n
  | 0, _ => Nat.two_pow_pos n
  | j + 1, h => by
    have ih := orf_lt (s := s) (fun k hk => h k (Nat.lt_succ_of_lt hk))
    unfold orf
    split
    · exact Nat.or_lt_two_pow ih (Nat.pow_lt_pow_right (by omega) (h j (Nat.lt_succ_self j)))
    · exact ih
theorem orf_tb {s : Nat} {f : Nat → Nat} (i : Nat) : ∀ (j : Nat), (orf s f j).testBit i = true ↔ ∃ k, k < j ∧ s.testBit k = true ∧ f k = i
  | 0 => by simp [orf]
  | j + 1 => by
    have ih := orf_tb (s := s) (f := f) i j
    unfold orf
    by_cases hb : s.testBit j = true
    · rw [if_pos hb, fb_bit_set, Bool.or_eq_true, ih]
      constructor
      · rintro (⟨k, h1, h2, h3⟩ | h)
        · exact ⟨k, by omega, h2, h3⟩
        · exact ⟨j, by omega, hb, by simpa using (of_decide_eq_true h).symm⟩
      · rintro ⟨k, h1, h2, h3⟩
        by_cases hk : k < j
        · exact Or.inl ⟨k, hk, h2, h3⟩
        · have e : k = j := by omega
          subst e
          right
          exact decide_eq_true h3.symm
    · rw [if_neg hb, ih]
      constructor
      · rintro ⟨k, h1, h2, h3⟩
        exact ⟨k, by omega, h2, h3⟩
      · rintro ⟨k, h1, h2, h3⟩
        refine ⟨k, ?_, h2, h3⟩
        have : k ≠ j := fun e => hb (e ▸ h2)
        omega
theorem sp_stretched {n s : Nat} {m : Int32} {f : Nat → Nat} {Q : Int32 → Prop} (h0 : 0 < n) (hn : n ≤ 24) (hs : s < 2 ^ n) (hf : ∀ j, j < n → f j < n) (hm : ∀ j, j < n → ∀ P : Int32 → Prop, P (nI (f j)) → wp_X6_leftOver (nI j * m) (nI n) P) (h : Q (nI (orf s f n))) : wp_X6_stretched (nI n) (nI s) m Q := by
  have hp : 2 ^ n ≤ 2 ^ 24 := Nat.pow_le_pow_right (by omega) hn
  unfold wp_X6_stretched
  refine lp_up (P := fun k j => wp_X6_stretched_h5 Q k (nI n) (nI s) m (nI (orf s f j)) (nI j)) (a := 0) (n := n) (by omega) ⟨1, ?_⟩ (fun j _ hj ⟨k, hk⟩ => ⟨k + 1, ?_⟩)
  · unfold wp_X6_stretched_h5
    exact br_t (nI_le (Nat.le_refl n) (by omega)) h
  · unfold wp_X6_stretched_h5
    refine br_f (nI_ge hj (by omega)) ?_
    refine sp_bit (by omega) (by omega) ?_
    have step : ∀ (x : Int32), x = nI (orf s f (j + 1)) → wp_X6_stretched_j34 (wp_X6_stretched_h5 Q k) Q (nI n) (nI s) m x (nI j) := by
      intro x hx
      unfold wp_X6_stretched_j34
      intro x1 e1
      rw [nI_1] at e1
      rw [hx, e1]
      exact hk
    have e9 : orf s f (j + 1) = if s.testBit j then orf s f j ||| 2 ^ f j else orf s f j := rfl
    cases hb : s.testBit j
    · rw [hb] at e9
      refine ⟨fun _ => step _ (by rw [e9]; rfl), fun q => absurd q (by decide)⟩
    · rw [hb] at e9
      refine ⟨fun q => absurd rfl q, fun _ => ?_⟩
      refine hm j hj _ ?_
      intro x6 e6
      rw [J_shl1 (by have := hf j hj; omega), fa_or] at e6
      exact step x6 (by rw [e6, e9]; rfl)
/-- read from behind -/
def bh (n s : Nat) : Nat := orf s (fun j => (n - j) % n) n
theorem sp_mirrored {n s : Nat} {Q : Int32 → Prop} (h0 : 0 < n) (hn : n ≤ 24) (hs : s < 2 ^ n) (h : Q (nI (bh n s))) : wp_X6_mirrored (nI n) (nI s) Q := by
  unfold wp_X6_mirrored
  refine sp_stretched (f := fun j => (n - j) % n) h0 hn hs (fun j _ => Nat.mod_lt _ h0) (fun j hj P hP => ?_) h
  rw [show nI j * (-1) = nI 0 - nI j by rw [Int32.mul_neg, Int32.mul_one]; simp [nI]]
  refine sp_leftOverS (by omega) h0 (by omega) (by omega) ?_
  rw [show 0 + n - j = n - j by omega]
  exact hP
theorem sp_behindOf {n s : Nat} {Q : Int32 → Prop} (h0 : 0 < n) (hn : n ≤ 24) (hs : s < 2 ^ n) (h : Q (nI (bh n s))) : wp_X10_behindOf (nI s) (nI n) Q := by
  have hp : 2 ^ n ≤ 2 ^ 24 := Nat.pow_le_pow_right (by omega) hn
  unfold wp_X10_behindOf
  refine lp_up (P := fun k j => wp_X10_behindOf_h4 Q k (nI s) (nI n) (nI (orf s (fun j => (n - j) % n) j)) (nI j)) (a := 0) (n := n) (by omega) ⟨1, ?_⟩ (fun j _ hj ⟨k, hk⟩ => ⟨k + 1, ?_⟩)
  · unfold wp_X10_behindOf_h4
    exact br_t (nI_le (Nat.le_refl n) (by omega)) h
  · unfold wp_X10_behindOf_h4
    refine br_f (nI_ge hj (by omega)) ?_
    refine sp_has (by omega) (by omega) ?_
    have step : ∀ (y : Int32), nI (orf s (fun j => (n - j) % n) j) ||| y = nI (orf s (fun j => (n - j) % n) (j + 1)) → wp_X10_behindOf_j29 (wp_X10_behindOf_h4 Q k) Q (nI s) (nI n) (nI j) (nI (orf s (fun j => (n - j) % n) j)) y := by
      intro y hy
      unfold wp_X10_behindOf_j29
      intro x1 e1 x2 e2
      rw [hy] at e1
      rw [nI_1] at e2
      rw [e1, e2]
      exact hk
    have e9 : orf s (fun j => (n - j) % n) (j + 1) = if s.testBit j then orf s (fun j => (n - j) % n) j ||| 2 ^ ((n - j) % n) else orf s (fun j => (n - j) % n) j := rfl
    cases hb : s.testBit j
    · rw [hb] at e9
      refine ⟨fun _ => step _ (by rw [e9, show (0 : Int32) = nI 0 from rfl, fa_or, Nat.or_zero]; rfl), fun q => absurd rfl q⟩
    · rw [hb] at e9
      refine ⟨fun q => absurd q (by decide), fun _ => ⟨nI_ne0 h0 (by omega), ?_⟩⟩
      rw [pk_sub (by omega), pk_rem (by omega) h0 (by omega), J_shl1 (by have := Nat.mod_lt (n - j) h0; omega)]
      exact step _ (by rw [e9, fa_or]; rfl)
/-- spread evenly -/
def evf (n k : Nat) : Nat → Nat
  | 0 => 0
  | j + 1 => if j * k % n < k then evf n k j ||| 2 ^ j else evf n k j
theorem evf_lt (n k : Nat) : ∀ j, evf n k j < 2 ^ j
  | 0 => by simp [evf]
  | j + 1 => by
    have ih := evf_lt n k j
    have h2 : 2 ^ j < 2 ^ (j + 1) := Nat.pow_lt_pow_right (by omega) (Nat.lt_succ_self j)
    unfold evf
    split
    · exact Nat.or_lt_two_pow (by omega) h2
    · omega
theorem sp_evenly {n k : Nat} {Q : Int32 → Prop} (h0 : 0 < n) (hn : n ≤ 24) (hk : k ≤ n) (h : Q (nI (evf n k n))) : wp_X6_evenly (nI n) (nI k) Q := by
  unfold wp_X6_evenly
  refine lp_up (P := fun z j => wp_X6_evenly_h4 Q z (nI n) (nI k) (nI (evf n k j)) (nI j)) (a := 0) (n := n) (by omega) ⟨1, ?_⟩ (fun j _ hj ⟨z, hz⟩ => ⟨z + 1, ?_⟩)
  · unfold wp_X6_evenly_h4
    exact br_t (nI_le (Nat.le_refl n) (by omega)) h
  · unfold wp_X6_evenly_h4
    refine br_f (nI_ge hj (by omega)) ?_
    have hjk : j * k ≤ 24 * 24 := Nat.mul_le_mul (by omega) (by omega)
    rw [pk_mul]
    refine sp_leftOver (by omega) h0 (by omega) ?_
    have hm := Nat.mod_lt (j * k) h0
    have step : ∀ (x : Int32), x = nI (evf n k (j + 1)) → wp_X6_evenly_j26 (wp_X6_evenly_h4 Q z) Q (nI n) (nI k) x (nI j) := by
      intro x hx
      unfold wp_X6_evenly_j26
      intro x1 e1
      rw [nI_1] at e1
      rw [hx, e1]
      exact hz
    refine b_le (by omega) (by omega) (fun q => step _ ?_) (fun q => ?_)
    · rw [evf, if_neg (by omega)]
    · intro x5 e5
      rw [J_shl1 (by omega), fa_or] at e5
      exact step x5 (by rw [e5, evf, if_pos q])
theorem sp_evenOf {n k : Nat} {Q : Int32 → Prop} (h0 : 0 < n) (hn : n ≤ 24) (hk : k ≤ n) (h : Q (nI (evf n k n))) : wp_X10_evenOf (nI k) (nI n) Q := by
  unfold wp_X10_evenOf
  refine lp_up (P := fun z j => wp_X10_evenOf_h4 Q z (nI k) (nI n) (nI (evf n k j)) (nI j)) (a := 0) (n := n) (by omega) ⟨1, ?_⟩ (fun j _ hj ⟨z, hz⟩ => ⟨z + 1, ?_⟩)
  · unfold wp_X10_evenOf_h4
    exact br_t (nI_le (Nat.le_refl n) (by omega)) h
  · unfold wp_X10_evenOf_h4
    refine br_f (nI_ge hj (by omega)) ⟨nI_ne0 h0 (by omega), ?_⟩
    have hjk : j * k ≤ 24 * 24 := Nat.mul_le_mul (by omega) (by omega)
    have hm := Nat.mod_lt (j * k) h0
    rw [pk_mul, pk_rem (by omega) h0 (by omega)]
    have step : ∀ (y : Int32), nI (evf n k j) ||| y = nI (evf n k (j + 1)) → wp_X10_evenOf_j26 (wp_X10_evenOf_h4 Q z) Q (nI k) (nI n) (nI j) (nI (evf n k j)) y := by
      intro y hy
      unfold wp_X10_evenOf_j26
      intro x1 e1 x2 e2
      rw [hy] at e1
      rw [nI_1] at e2
      rw [e1, e2]
      exact hz
    refine b_le (by omega) (by omega) (fun q => step _ ?_) (fun q => ?_)
    · rw [evf, if_neg (by omega), show (0 : Int32) = nI 0 from rfl, fa_or, Nat.or_zero]
    · rw [J_shl1 (by omega)]
      exact step _ (by rw [fa_or, evf, if_pos q])
/-- the period -/
def pd (n s : Nat) : Nat := fa_first (fun t => decide (1 ≤ t) && decide (mv n s t = s)) n
theorem pd_ge {n s : Nat} (h0 : 0 < n) : 1 ≤ pd n s := by
  unfold pd
  by_cases h : fa_first (fun t => decide (1 ≤ t) && decide (mv n s t = s)) n < n
  · have h2 := fa_first_yes _ n h
    simp at h2
    exact h2.1
  · omega
theorem pd_le (n s : Nat) : pd n s ≤ n := fa_first_le _ n
theorem pd_no {n s t : Nat} (h1 : 1 ≤ t) (h : t < pd n s) : mv n s t ≠ s := by
  have h2 := fa_first_no _ n t h
  simp [h1] at h2
  exact h2
theorem pd_yes {n s : Nat} (h : pd n s < n) : mv n s (pd n s) = s := by
  have h2 := fa_first_yes _ n h
  simp at h2
  exact h2.2
theorem sp_period {n s : Nat} {Q : Int32 → Prop} (h0 : 0 < n) (hn : n ≤ 24) (hs : s < 2 ^ n) (h : Q (nI (pd n s))) : wp_X6_period (nI n) (nI s) Q := by
  have hp : 2 ^ n ≤ 2 ^ 24 := Nat.pow_le_pow_right (by omega) hn
  have hle := pd_le n s
  unfold wp_X6_period
  refine lp_up (P := fun k j => wp_X6_period_h2 Q k (nI n) (nI s) (nI j)) (a := 1) (n := pd n s) (pd_ge h0) ⟨1, ?_⟩ (fun j h1 hj ⟨k, hk⟩ => ⟨k + 1, ?_⟩)
  · unfold wp_X6_period_h2
    by_cases hc : pd n s < n
    · refine br_f (nI_ge hc (by omega)) ?_
      refine sp_moved h0 hn hs (by omega) ?_
      rw [Nat.mod_eq_of_lt hc, pd_yes hc]
      exact ⟨fun q => absurd rfl q, fun _ => h⟩
    · have e : pd n s = n := by omega
      rw [e] at h ⊢
      exact br_t (nI_le (Nat.le_refl n) (by omega)) h
  · unfold wp_X6_period_h2
    refine br_f (nI_ge (by omega) (by omega)) ?_
    refine sp_moved h0 hn hs (by omega) ?_
    have hm := mv_lt n s (j % n)
    refine b_ne (by omega) (by omega) (fun _ => ?_) (fun q => ?_)
    · intro x e
      rw [nI_1] at e
      rw [e]
      exact hk
    · rw [Nat.mod_eq_of_lt (by omega)] at q
      exact absurd q (pd_no h1 hj)
theorem sp_periodOf {n s : Nat} {Q : Int32 → Prop} (h0 : 0 < n) (hn : n ≤ 24) (hs : s < 2 ^ n) (h : Q (nI (pd n s))) : wp_X10_periodOf (nI s) (nI n) Q := by
  have hp : 2 ^ n ≤ 2 ^ 24 := Nat.pow_le_pow_right (by omega) hn
  have hle := pd_le n s
  unfold wp_X10_periodOf
  refine lp_up (P := fun k j => wp_X10_periodOf_h2 Q k (nI s) (nI n) (nI j)) (a := 1) (n := pd n s) (pd_ge h0) ⟨1, ?_⟩ (fun j h1 hj ⟨k, hk⟩ => ⟨k + 1, ?_⟩)
  · unfold wp_X10_periodOf_h2
    refine sp_moved10 h0 hn hs (by omega) ?_
    have e : mv n s (pd n s % n) = s := by
      by_cases hc : pd n s < n
      · rw [Nat.mod_eq_of_lt hc, pd_yes hc]
      · rw [show pd n s = n by omega, Nat.mod_self, mv_0 hs h0]
    rw [e]
    exact ⟨fun _ => h, fun q => absurd rfl q⟩
  · unfold wp_X10_periodOf_h2
    refine sp_moved10 h0 hn hs (by omega) ?_
    have hm := mv_lt n s (j % n)
    refine b_eq (by omega) (by omega) (fun q => ?_) (fun _ => ?_)
    · rw [Nat.mod_eq_of_lt (by omega)] at q
      exact absurd q (pd_no h1 hj)
    · intro x e
      rw [nI_1] at e
      rw [e]
      exact hk
