/-! ===== the greatest necklace ===== -/
theorem evf_tb (n k i : Nat) : ∀ j, (evf n k j).testBit i = decide (i < j ∧ i * k % n < k)
  | 0 => by simp [evf]
  | j + 1 => by
    have ih := evf_tb n k i j
    unfold evf
    by_cases hc : j * k % n < k
    · rw [if_pos hc, fb_bit_set, ih]
      by_cases he : i = j
      · subst he; simp [hc]
      · by_cases h1 : i < j
        · simp [he, h1, show i < j + 1 by omega]
        · simp [he, h1, show ¬ i < j + 1 by omega]
    · rw [if_neg hc, ih]
      by_cases he : i = j
      · subst he; simp [hc]
      · by_cases h1 : i < j
        · simp [h1, show i < j + 1 by omega]
        · simp [h1, show ¬ i < j + 1 by omega]
def cv (n k : Nat) : Nat := mv n (vl n (evf n k n)) (1 % n)
theorem cv_lt (n k : Nat) : cv n k < 2 ^ n := mv_lt _ _ _
theorem cv_wd {n k i : Nat} (h0 : 0 < n) (hi : i < n) : wd n (cv n k) i = decide ((i + 1) * k % n < k) := by
  unfold cv
  rw [wd_mv (vl_lt _ _) (Nat.mod_lt _ h0) hi]
  have hm : (i + 1 % n) % n = (i + 1) % n := Nat.add_mod_mod i 1 n
  rw [hm]
  unfold wd
  have hlt := Nat.mod_lt (i + 1) h0
  rw [vl_tb (by omega), show n - 1 - (n - 1 - (i + 1) % n) = (i + 1) % n by omega, evf_tb, Nat.mod_mul_mod]
  simp [hlt]
theorem div_step {n k x : Nat} (h0 : 0 < n) (hk : k ≤ n) : (x + k) / n = x / n + if (x + k) % n < k then 1 else 0 := by
  have h1 := Nat.div_add_mod x n
  have h2 := Nat.mod_lt x h0
  by_cases hc : x % n + k < n
  · have e : x + k = n * (x / n) + (x % n + k) := by omega
    rw [e, Nat.mul_add_div h0, Nat.mul_add_mod, Nat.div_eq_of_lt hc, Nat.mod_eq_of_lt hc, if_neg (by omega)]
  · have e : x + k = n * (x / n + 1) + (x % n + k - n) := by rw [Nat.mul_add, Nat.mul_one]; omega
    by_cases hkn : x % n + k - n < n
    · rw [e, Nat.mul_add_div h0, Nat.mul_add_mod, Nat.div_eq_of_lt hkn, Nat.mod_eq_of_lt hkn]
      by_cases hk2 : x % n + k - n < k
      · rw [if_pos hk2]
      · omega
    · omega
theorem cv_sum {n k : Nat} (h0 : 0 < n) (hk : k ≤ n) : ∀ i, i ≤ n → fb_ct (fun i => wd n (cv n k) i) i = i * k / n := by
  intro i
  induction i with
  | zero => intro _; show 0 = 0 * k / n; rw [Nat.zero_mul, Nat.zero_div]
  | succ i ih =>
    intro hi
    rw [fb_ct_succ, ih (by omega), cv_wd h0 (by omega), show (i + 1) * k = i * k + k by rw [Nat.add_mul, Nat.one_mul], div_step h0 hk]
    congr 1
    by_cases hc : (i * k + k) % n < k
    · simp [hc]
    · simp [hc]
/-- the count of the first letters of a rotation -/
def Px (n v x : Nat) : Nat := if x ≤ n then fb_ct (fun i => wd n v i) x else fb_ct (fun i => wd n v i) n + fb_ct (fun i => wd n v i) (x - n)
theorem rot_sum {n v j : Nat} (hv : v < 2 ^ n) (hj : j < n) : ∀ i, i ≤ n → fb_ct (fun i => wd n (mv n v j) i) i + fb_ct (fun i => wd n v i) j = Px n v (j + i) := by
  intro i
  induction i with
  | zero => intro _; unfold Px; rw [Nat.add_zero, if_pos (by omega)]; show 0 + _ = _; rw [Nat.zero_add]
  | succ i ih =>
    intro hi
    have h1 := ih (by omega)
    have h2 := fb_ct_succ (fun i => wd n (mv n v j) i) i
    have e : wd n (mv n v j) i = wd n v ((i + j) % n) := wd_mv hv hj (by omega)
    unfold Px at h1 ⊢
    by_cases hc : j + i < n
    · rw [if_pos (show j + i ≤ n by omega)] at h1
      rw [Nat.mod_eq_of_lt (show i + j < n by omega), Nat.add_comm i j] at e
      rw [if_pos (show j + (i + 1) ≤ n by omega), show j + (i + 1) = (j + i) + 1 by omega, h2, fb_ct_succ (fun i => wd n v i), e]
      omega
    · rw [mod2 (show i + j < 2 * n by omega), if_neg (show ¬ i + j < n by omega), Nat.add_comm i j] at e
      rw [if_neg (show ¬ j + (i + 1) ≤ n by omega), show j + (i + 1) - n = (j + i - n) + 1 by omega, h2, fb_ct_succ (fun i => wd n v i), e]
      by_cases hc2 : j + i = n
      · rw [if_pos (show j + i ≤ n by omega)] at h1
        rw [hc2] at h1 ⊢
        rw [Nat.sub_self]
        have z0 : fb_ct (fun i => wd n v i) 0 = 0 := rfl
        omega
      · rw [if_neg (show ¬ j + i ≤ n by omega)] at h1
        omega
theorem wd_bc {n v : Nat} (hv : v < 2 ^ n) (hn : n ≤ 32) : fb_ct (fun i => wd n v i) n = bc v := by
  have h1 := bc_vl hv hn
  rw [bc_n (vl_lt n v) hn] at h1
  rw [← h1]
  exact fb_ct_cong (fun k hk => by unfold wd; rw [vl_tb hk])
theorem neck_le {n w k : Nat} (h0 : 0 < n) (hn : n ≤ 32) (hC : Cn n k w) : w ≤ cv n k := by
  obtain ⟨hw, hN, hb⟩ := hC
  have hkn : k ≤ n := by rw [← hb]; exact bc_le hw hn
  have hPn := wd_bc hw hn
  rw [hb] at hPn
  obtain ⟨j, hj, hbest, _⟩ := fb_best (fun x => (n : Int) * (fb_ct (fun i => wd n w i) x : Int) - (x : Int) * k) h0
  have hu := mv_lt n w j
  have hle : w ≤ mv n w j := by
    by_cases e : j = 0
    · rw [e, mv_0 hw h0]; exact Nat.le_refl w
    · exact hN j (by omega) hj
  have hcnt : ∀ i, i ≤ n → fb_ct (fun i => wd n (mv n w j) i) i ≤ i * k / n := by
    intro i hi
    have h1 := rot_sum hw hj i hi
    rw [Nat.le_div_iff_mul_le h0]
    have hb0 := hbest 0 h0
    have e0 : fb_ct (fun i => wd n w i) 0 = 0 := rfl
    unfold Px at h1
    have z0 : (n : Int) * ((0 : Nat) : Int) - ((0 : Nat) : Int) * k = 0 := by simp
    rw [e0] at hb0
    have hb0' : (0 : Int) ≤ (n : Int) * (fb_ct (fun i => wd n w i) j : Int) - (j : Int) * k := by
      have : (n : Int) * ((0 : Nat) : Int) - ((0 : Nat) : Int) * k ≤ (n : Int) * (fb_ct (fun i => wd n w i) j : Int) - (j : Int) * k := hb0
      omega
    generalize fb_ct (fun i => wd n (mv n w j) i) i = c at h1 ⊢
    have goalI : (c : Int) * n ≤ (i : Int) * k → c * n ≤ i * k := by
      intro h
      exact_mod_cast h
    refine goalI ?_
    by_cases hc : j + i < n
    · rw [if_pos (by omega)] at h1
      have hb1 := hbest (j + i) hc
      have hb1' : (n : Int) * (fb_ct (fun i => wd n w i) (j + i) : Int) - ((j + i : Nat) : Int) * k ≤ (n : Int) * (fb_ct (fun i => wd n w i) j : Int) - (j : Int) * k := hb1
      rw [← h1] at hb1'
      have e2 : ((c + fb_ct (fun i => wd n w i) j : Nat) : Int) = (c : Int) + (fb_ct (fun i => wd n w i) j : Int) := by omega
      have e3 : ((j + i : Nat) : Int) = (j : Int) + (i : Int) := by omega
      rw [e2, e3, Int.mul_add, Int.add_mul, Int.mul_comm (n : Int) (c : Int)] at hb1'
      omega
    · by_cases hc2 : j + i = n
      · rw [hc2, if_pos (Nat.le_refl n), hPn] at h1
        have e1 : (k : Int) = (c : Int) + (fb_ct (fun i => wd n w i) j : Int) := by omega
        have e2 : (n : Int) = (j : Int) + (i : Int) := by omega
        have e4 : (n : Int) * (k : Int) = (n : Int) * (c : Int) + (n : Int) * (fb_ct (fun i => wd n w i) j : Int) := by rw [e1, Int.mul_add]
        have e5 : (n : Int) * (k : Int) = (j : Int) * k + (i : Int) * k := by rw [e2, Int.add_mul]
        rw [Int.mul_comm (c : Int) (n : Int)]
        omega
      · rw [if_neg (by omega), hPn] at h1
        have hb1 := hbest (j + i - n) (by omega)
        have hb1' : (n : Int) * (fb_ct (fun i => wd n w i) (j + i - n) : Int) - ((j + i - n : Nat) : Int) * k ≤ (n : Int) * (fb_ct (fun i => wd n w i) j : Int) - (j : Int) * k := hb1
        have e1 : (fb_ct (fun i => wd n w i) (j + i - n) : Int) = (c : Int) + (fb_ct (fun i => wd n w i) j : Int) - (k : Int) := by omega
        have e3 : ((j + i - n : Nat) : Int) = (j : Int) + (i : Int) - (n : Int) := by omega
        rw [e1, e3, Int.mul_sub, Int.mul_add, Int.sub_mul, Int.add_mul] at hb1'
        rw [Int.mul_comm (c : Int) (n : Int)]
        omega
  refine Nat.le_trans hle ?_
  rcases Nat.lt_or_ge (cv n k) (mv n w j) with q | q
  · exfalso
    obtain ⟨i, hi, h1, h2, h3⟩ := lex_ex (cv_lt n k) hu q
    have a1 := fb_ct_succ (fun i => wd n (mv n w j) i) i
    have a2 := fb_ct_succ (fun i => wd n (cv n k) i) i
    have a3 := hcnt (i + 1) (by omega)
    have a4 := cv_sum h0 hkn (i + 1) (by omega)
    have a5 : fb_ct (fun i => wd n (cv n k) i) i = fb_ct (fun i => wd n (mv n w j) i) i := fb_ct_cong (fun x hx => h1 x hx)
    rw [h3] at a1
    rw [h2] at a2
    simp at a1 a2
    omega
  · exact q
theorem cv_NK {n k : Nat} (h0 : 0 < n) (hk : k ≤ n) : NK n (cv n k) := by
  intro t ht1 ht2
  rcases Nat.lt_or_ge (mv n (cv n k) t) (cv n k) with q | q
  · exfalso
    obtain ⟨i, hi, h1, h2, h3⟩ := lex_ex (mv_lt _ _ _) (cv_lt n k) q
    have a1 := fb_ct_succ (fun i => wd n (mv n (cv n k) t) i) i
    have a2 := fb_ct_succ (fun i => wd n (cv n k) i) i
    have a4 := cv_sum h0 hk (i + 1) (by omega)
    have a5 : fb_ct (fun i => wd n (mv n (cv n k) t) i) i = fb_ct (fun i => wd n (cv n k) i) i := fb_ct_cong (fun x hx => h1 x hx)
    rw [h2] at a1
    rw [h3] at a2
    have a6 := rot_sum (cv_lt n k) ht2 (i + 1) (by omega)
    have a7 := cv_sum h0 hk t (by omega)
    have a8 : Px n (cv n k) (t + (i + 1)) = (t + (i + 1)) * k / n := by
      unfold Px
      by_cases hc : t + (i + 1) ≤ n
      · rw [if_pos hc, cv_sum h0 hk _ hc]
      · rw [if_neg hc, cv_sum h0 hk n (Nat.le_refl n), cv_sum h0 hk _ (by omega), Nat.mul_div_cancel_left _ h0]
        have e : (t + (i + 1)) * k = n * k + (t + (i + 1) - n) * k := by rw [← Nat.add_mul]; congr 1; omega
        rw [e, Nat.mul_add_div h0]
    have a9 : t * k / n + (i + 1) * k / n ≤ (t + (i + 1)) * k / n := by
      rw [Nat.add_mul t (i + 1) k]
      exact (Nat.le_div_iff_mul_le h0).mpr (by rw [Nat.add_mul (t * k / n)]; exact Nat.add_le_add (Nat.div_mul_le_self _ _) (Nat.div_mul_le_self _ _))
    simp at a1 a2
    omega
  · exact q
theorem nk_even {n k : Nat} (h0 : 0 < n) (hk : k ≤ n) : nk n (evf n k n) = cv n k := by
  have he := evf_lt n k n
  have hle : nk n (evf n k n) ≤ cv n k := by
    have h1 : cv n k = wv n (evf n k n) ((n - 1 % n) % n) := by
      unfold wv cv
      rw [vl_mv he (Nat.mod_lt _ h0)]
      congr 1
      by_cases e : n = 1
      · subst e; rfl
      · rw [Nat.mod_eq_of_lt (show 1 < n by omega), Nat.mod_eq_of_lt (show n - 1 < n by omega), show n - (n - 1) = 1 by omega, Nat.mod_eq_of_lt (by omega)]
    rw [h1]
    exact nk_le (Nat.mod_lt _ h0)
  have hge : cv n k ≤ nk n (evf n k n) := by
    rw [← nk_at]
    unfold wv
    have ht := nt_lt (s := evf n k n) h0
    rw [vl_mv he ht]
    -- a rotation of cv
    have h1 : mv n (vl n (evf n k n)) ((n - nt n (evf n k n)) % n) = mv n (cv n k) (((n - nt n (evf n k n)) % n + (n - 1 % n) % n) % n) := by
      unfold cv
      have hm1 : 1 % n < n := Nat.mod_lt _ h0
      have hm2 : ((n - nt n (evf n k n)) % n + (n - 1 % n) % n) % n < n := Nat.mod_lt _ h0
      rw [mv_mv (vl_lt _ _) hm1 hm2]
      congr 1
      have hA : (n - nt n (evf n k n)) % n < n := Nat.mod_lt _ h0
      generalize (n - nt n (evf n k n)) % n = A at hA ⊢
      by_cases e : n = 1
      · subst e; omega
      · rw [Nat.mod_eq_of_lt (show 1 < n by omega), Nat.mod_eq_of_lt (show n - 1 < n by omega), Nat.add_mod_mod, show 1 + (A + (n - 1)) = A + n by omega, Nat.add_mod_right, Nat.mod_eq_of_lt hA]
    rw [h1]
    have hm3 : ((n - nt n (evf n k n)) % n + (n - 1 % n) % n) % n < n := Nat.mod_lt _ h0
    generalize ((n - nt n (evf n k n)) % n + (n - 1 % n) % n) % n = u at hm3 ⊢
    by_cases e : u = 0
    · rw [e, mv_0 (cv_lt _ _) h0]; exact Nat.le_refl _
    · exact cv_NK h0 hk u (by omega) hm3
  omega
theorem cv_head {n k : Nat} (h0 : 0 < n) (hk : k ≤ n) (hk0 : 0 < k) : cv n k < 2 ^ (n - (n - 1) / k) := by
  have hr : (n - 1) / k ≤ n - 1 := Nat.div_le_self _ _
  have hrk : (n - 1) / k * k ≤ n - 1 := Nat.div_mul_le_self _ _
  have e : cv n k % 2 ^ (n - (n - 1) / k) = cv n k := by
    refine set_ext (n := n) (Nat.lt_of_le_of_lt (Nat.mod_le _ _) (cv_lt n k)) (cv_lt n k) (fun i hi => ?_)
    rw [Nat.testBit_mod_two_pow]
    by_cases hc : i < n - (n - 1) / k
    · simp [hc]
    · have h1 := cv_wd (n := n) (k := k) (i := n - 1 - i) h0 (by omega)
      unfold wd at h1
      rw [show n - 1 - (n - 1 - i) = i by omega] at h1
      have h2 : (n - 1 - i + 1) * k ≤ (n - 1) / k * k := Nat.mul_le_mul_right _ (by omega)
      have h3 : 1 * k ≤ (n - 1 - i + 1) * k := Nat.mul_le_mul_right _ (by omega)
      rw [Nat.mod_eq_of_lt (by omega), decide_eq_false (by omega)] at h1
      rw [h1]
      simp
  rw [← e]
  exact Nat.mod_lt _ (Nat.two_pow_pos _)
/-! ===== the class: is it most even, the later one ===== -/
theorem sp_isMostEven {n r : Nat} {Q : Int32 → Prop} (h0 : 0 < n) (hn : n ≤ 24) (hr : r < 2 ^ n) (h : Q (if nk n r = nk n (evf n (bc r) n) then 1 else 0)) : wp_X9_isMostEven (nI n) (nI r) Q := by
  have hp : 2 ^ n ≤ 2 ^ 24 := Nat.pow_le_pow_right (by omega) hn
  have hbr := bc_le hr (by omega : n ≤ 32)
  have a1 := nk_lt (n := n) (s := r)
  have a2 := nk_lt (n := n) (s := evf n (bc r) n)
  unfold wp_X9_isMostEven wp_X9_isMostEven_j42
  refine sp_bitCount (by omega) ?_
  refine sp_evenly h0 hn hbr ?_
  refine sp_least h0 hn hr ?_
  refine sp_least h0 hn (evf_lt n (bc r) n) ?_
  refine b_ne (by omega) (by omega) (fun q => ⟨isB0, by rw [if_neg q] at h; exact h⟩) (fun q => ⟨isB1, by rw [if_pos q] at h; exact h⟩)
theorem sp_laterNecklace {n r : Nat} {Q : Int32 → Prop} (h0 : 0 < n) (hn : n ≤ 24) (hr : r < 2 ^ n) (hQ : ∀ x, Nx n (nk n r) (bc r) x → Q x) : wp_X9_laterNecklace (nI n) (nI r) Q := by
  have hbr := bc_le hr (by omega : n ≤ 32)
  unfold wp_X9_laterNecklace wp_X9_laterNecklace_j29
  refine sp_isMostEven h0 hn hr ?_
  by_cases hc : nk n r = nk n (evf n (bc r) n)
  · rw [if_pos hc]
    refine ⟨fun q => absurd q (by decide), fun _ => hQ _ (Or.inl ⟨rfl, fun w h1 h2 hC => ?_⟩)⟩
    have h3 := neck_le h0 (by omega : n ≤ 32) hC
    rw [hc, nk_even h0 hbr] at h1
    omega
  · rw [if_neg hc]
    refine ⟨fun _ => ?_, fun q => absurd rfl q⟩
    refine sp_least h0 hn hr ?_
    refine sp_later h0 hn nk_lt (nk_NK h0 hr) ?_
    rw [nk_bc h0 (by omega) hr]
    exact hQ
/-! ===== the reference ===== -/
theorem sp_isLeast {n v : Nat} {Q : Int32 → Prop} (h0 : 0 < n) (hn : n ≤ 24) (hv : v < 2 ^ n) (hT : NK n v → Q 1) (hF : ¬ NK n v → Q 0) : wp_X10_isLeast (nI v) (nI n) Q := by
  have hp : 2 ^ n ≤ 2 ^ 24 := Nat.pow_le_pow_right (by omega) hn
  unfold wp_X10_isLeast
  obtain ⟨T, hTe⟩ : ∃ T, T = fa_first (fun t => decide (1 ≤ t) && decide (mv n v t < v)) n := ⟨_, rfl⟩
  have hTle : T ≤ n := by rw [hTe]; exact fa_first_le _ n
  have hno : ∀ t, 1 ≤ t → t < T → ¬ mv n v t < v := fun t h1 ht => by
    have h2 := fa_first_no (fun t => decide (1 ≤ t) && decide (mv n v t < v)) n t (by rw [← hTe]; exact ht)
    simp [h1] at h2
    omega
  have hyes : T < n → 1 ≤ T ∧ mv n v T < v := fun ht => by
    have h2 := fa_first_yes (fun t => decide (1 ≤ t) && decide (mv n v t < v)) n (by rw [← hTe]; exact ht)
    rw [← hTe] at h2
    simpa using h2
  have hT1 : 1 ≤ T := by
    rcases Nat.lt_or_ge T n with q | q
    · exact (hyes q).1
    · omega
  refine lp_up (P := fun k j => wp_X10_isLeast_h4 Q k (nI v) (nI n) 1 (nI j)) (a := 1) (n := T) hT1 ?_ (fun j h1 hj ⟨k, hk⟩ => ⟨k + 1, ?_⟩)
  · by_cases hc : T < n
    · obtain ⟨_, hlt⟩ := hyes hc
      have hnk : ¬ NK n v := fun q => by have := q T (by omega) hc; omega
      have hm := mv_lt n v T
      refine ⟨2, ?_⟩
      unfold wp_X10_isLeast_h4
      refine br_f (nI_ge hc (by omega)) ⟨fun q => absurd q (by decide), fun _ => ?_⟩
      refine sp_moved10 h0 hn hv (by omega) ?_
      rw [Nat.mod_eq_of_lt hc]
      refine br_t (nI_lt hlt (by omega)) ?_
      unfold wp_X10_isLeast_j28
      intro x1 e1
      rw [nI_1] at e1
      rw [e1]
      unfold wp_X10_isLeast_h4 wp_X10_isLeast_j35
      refine b_le (by omega) (by omega) (fun _ => ⟨isB0, hF hnk⟩) (fun _ => ⟨fun _ => ⟨isB0, hF hnk⟩, fun q => absurd rfl q⟩)
    · have e : T = n := by omega
      have hnk : NK n v := fun t ht1 ht2 => by have := hno t (by omega) (by omega); omega
      refine ⟨1, ?_⟩
      unfold wp_X10_isLeast_h4 wp_X10_isLeast_j35
      rw [e]
      exact br_t (nI_le (Nat.le_refl n) (by omega)) ⟨isB1, hT hnk⟩
  · have hm := mv_lt n v (j % n)
    unfold wp_X10_isLeast_h4
    refine br_f (nI_ge (by omega) (by omega)) ⟨fun q => absurd q (by decide), fun _ => ?_⟩
    refine sp_moved10 h0 hn hv (by omega) ?_
    unfold wp_X10_isLeast_j28
    refine b_lt (by omega) (by omega) (fun q => ?_) (fun q => ?_)
    · rw [Nat.mod_eq_of_lt (by omega)] at q
      exact absurd q (hno j h1 hj)
    · intro x e
      rw [nI_1] at e
      rw [e]
      exact hk
theorem sp_necklace {n s : Nat} {nb : Int32} {Q : Int32 → Int32 → Prop} (h0 : 0 < n) (hn : n ≤ 24) (hs : s < 2 ^ n) (h : Q (nI (nk n s)) (nI (nt n s))) : wp_X10_necklace (nI n) (nI s) nb Q := by
  have hp : 2 ^ n ≤ 2 ^ 24 := Nat.pow_le_pow_right (by omega) hn
  unfold wp_X10_necklace
  refine sp_valueOf hn hs ?_
  have hb : ∀ j, (bst (wv n s) j).2 < 2 ^ n := fun j => by rw [← (bst_at (wv n s) j).1]; exact wv_lt _ _ _
  have e0 : vl n s = wv n s 0 := by unfold wv; rw [mv_0 hs h0]
  have key := lp_up (P := fun k j => wp_X10_necklace_h19 (nI n) (nI s) Q k (nI (bst (wv n s) (j - 1)).2) (nI j) (nI (bst (wv n s) (j - 1)).1)) (a := 1) (n := n) (by omega) ⟨1, ?_⟩ (fun j h1 hj ⟨k, hk⟩ => ⟨k + 1, ?_⟩)
  · obtain ⟨k, hk⟩ := key
    refine ⟨k, ?_⟩
    have e1 : nI (vl n s) = nI (bst (wv n s) 0).2 := by rw [e0]; rfl
    rw [e1]
    exact hk
  · unfold wp_X10_necklace_h19
    exact br_t (nI_le (Nat.le_refl n) (by omega)) h
  · unfold wp_X10_necklace_h19
    refine br_f (nI_ge hj (by omega)) ?_
    refine sp_moved10 h0 hn hs (by omega) ?_
    refine sp_valueOf hn (mv_lt _ _ _) ?_
    rw [Nat.mod_eq_of_lt hj]
    have hw := wv_lt n s j
    have hbb := hb (j - 1)
    have step : ∀ (a b : Nat), (a, b) = bst (wv n s) j → wp_X10_necklace_j74 (nI n) (nI s) (wp_X10_necklace_h19 (nI n) (nI s) Q k) Q (nI j) (nI b) (nI a) := by
      intro a b hab
      unfold wp_X10_necklace_j74
      intro x1 e1
      rw [nI_1] at e1
      have hk2 : wp_X10_necklace_h19 (nI n) (nI s) Q k (nI (bst (wv n s) j).2) (nI (j + 1)) (nI (bst (wv n s) j).1) := hk
      rw [← hab] at hk2
      rw [e1]
      exact hk2
    have e9 : bst (wv n s) j = if wv n s j < (bst (wv n s) (j - 1)).2 then (j, wv n s j) else bst (wv n s) (j - 1) := by
      obtain ⟨i, rfl⟩ : ∃ i, j = i + 1 := ⟨j - 1, by omega⟩
      rfl
    unfold wp_X10_necklace_j61
    refine b_le (a := (bst (wv n s) (j - 1)).2) (b := wv n s j) (by omega) (by omega) (fun q => ?_) (fun q => ?_)
    · refine ⟨fun _ => step _ _ ?_, fun q2 => absurd (nI_le q (by omega)) q2⟩
      rw [e9, if_neg (by omega)]
    · refine ⟨fun q2 => absurd q2 (nI_ge q (by omega)), fun _ => step _ _ ?_⟩
      rw [e9, if_pos q]; rfl
theorem sp_later10 {n r : Nat} {nb : Int32} {Q : Int32 → Int32 → Prop} (h0 : 0 < n) (hn : n ≤ 24) (hr : r < 2 ^ n) (hQ : ∀ x, Nx n (nk n r) (bc r) x → Q x (nI (nt n r))) : wp_X10_later (nI n) (nI r) nb Q := by
  have hp : 2 ^ n ≤ 2 ^ 24 := Nat.pow_le_pow_right (by omega) hn
  have hbr := bc_le hr (by omega : n ≤ 32)
  have hnb := nk_bc h0 (by omega : n ≤ 32) hr
  have hnl := nk_lt (n := n) (s := r)
  unfold wp_X10_later
  refine sp_necklace h0 hn hr ?_
  refine sp_bits (by omega) ?_
  refine b_ne (b := 0) (by omega) (by omega) (fun q => ⟨nI_ne0 (by omega) (by omega), ?_⟩) (fun q => ?_)
  · intro x10 e10
    rw [pk_sub hbr, nI_add, show n - bc r + bc r = n by omega, show (1 : Int32) = nI 1 from rfl, pk_sub (show 1 ≤ n by omega), pk_div (by omega) (by omega) (by omega)] at e10
    subst e10
    have hrl : (n - 1) / bc r ≤ n - 1 := Nat.div_le_self _ _
    intro x11 e11
    rw [pk_sub (by omega), J_shl1 (Nat.lt_of_le_of_lt (Nat.sub_le _ _) (by omega))] at e11
    subst e11
    obtain ⟨E, hE⟩ : ∃ E, E = 2 ^ (n - (n - 1) / bc r) := ⟨_, rfl⟩
    rw [← hE]
    have hEn : E ≤ 2 ^ n := by rw [hE]; exact Nat.pow_le_pow_right (by omega) (Nat.sub_le _ _)
    have hend : ∀ w, Cn n (bc r) w → w < E := by
      intro w hC
      have h1 := neck_le h0 (by omega : n ≤ 32) hC
      have h2 := cv_head h0 hbr (by omega)
      rw [← hE] at h2
      omega
    have hv0 : 0 < nk n r := by
      rcases Nat.eq_zero_or_pos (nk n r) with q2 | q2
      · rw [q2, bc_0] at hnb; omega
      · exact q2
    have key : ∀ d u, u + d = 2 ^ 27 → nk n r < u → bc u = bc r → (∀ w, nk n r < w → w < u → ¬ Cn n (bc r) w) → ∃ z, wp_X10_later_h47 (nI n) (nI r) Q z (nI u) (nI E) (nI (nt n r)) := by
      intro d
      induction d using Nat.strongRecOn with
      | _ d ih =>
        intro u hu hgt hbu hno
        by_cases hc : E ≤ u
        · refine ⟨1, ?_⟩
          unfold wp_X10_later_h47 wp_X10_later_j72 wp_X10_later_j83
          refine br_t (nI_le hc (by omega)) (br_t (nI_le hc (by omega)) (hQ _ (Or.inl ⟨rfl, fun w h1 h2 hC => ?_⟩)))
          exact hno w h1 (by have := hend w hC; omega) hC
        · have hu2 : u < 2 ^ n := by omega
          by_cases hN : NK n u
          · refine ⟨1, ?_⟩
            unfold wp_X10_later_h47 wp_X10_later_j72 wp_X10_later_j83
            refine br_f (nI_ge (by omega) (by omega)) ?_
            refine sp_isLeast h0 hn hu2 (fun _ => ?_) (fun q2 => absurd hN q2)
            refine ⟨fun _ => br_f (nI_ge (by omega) (by omega)) (hQ _ (Or.inr ⟨u, rfl, hgt, hu2, ⟨hu2, hN, hbu⟩, hno⟩)), fun q2 => absurd q2 (by decide)⟩
          · obtain ⟨b, y, e1, e2, e3, e4, e5, e6, e7, e8⟩ := gn_ok (s := u) (by omega) (by omega)
            obtain ⟨z, hz⟩ := ih (2 ^ 27 - gn u) (by omega) (gn u) (by omega) (by omega) (by rw [e6]; exact hbu) (fun w h1 h2 hC => by
              rcases Nat.lt_or_ge w u with c | c
              · exact hno w h1 c hC
              · rcases Nat.eq_or_lt_of_le c with c2 | c2
                · rw [← c2] at hC; exact hN hC.2.1
                · exact e7 w c2 h2 (by rw [hC.2.2, hbu]))
            refine ⟨z + 1, ?_⟩
            unfold wp_X10_later_h47
            refine br_f (nI_ge (by omega) (by omega)) ?_
            refine sp_isLeast h0 hn hu2 (fun q2 => absurd q2 hN) (fun _ => ?_)
            refine ⟨fun q2 => absurd rfl q2, fun _ => ?_⟩
            exact sp_nextAlike (by omega) (by omega) hz
    obtain ⟨b, y, e1, e2, e3, e4, e5, e6, e7, e8⟩ := gn_ok (s := nk n r) hv0 (by omega)
    refine sp_nextAlike hv0 (by omega) ?_
    exact key (2 ^ 27 - gn (nk n r)) (gn (nk n r)) (by omega) e5 (by rw [e6]; exact hnb) (fun w h1 h2 hC => e7 w h1 h2 (by rw [hC.2.2, hnb]))
  · refine hQ _ (Or.inl ⟨rfl, fun w h1 h2 hC => ?_⟩)
    have h3 := hC.2.2
    rw [q] at h3
    have := (bc_eq0 (s := w) (by omega)).mp h3
    omega
