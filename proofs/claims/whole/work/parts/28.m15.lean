/-! ===== words, necklaces ===== -/
def wd (n v i : Nat) : Bool := v.testBit (n - 1 - i)
theorem lt_tb {x y i : Nat} (h0 : x.testBit i = false) (h1 : y.testBit i = true) (he : ∀ j, i < j → x.testBit j = y.testBit j) : x < y := by
  rw [Nat.testBit_eq_decide_div_mod_eq] at h0 h1
  have hx : x / 2 ^ i % 2 = 0 := by
    have := of_decide_eq_false h0
    omega
  have hy : y / 2 ^ i % 2 = 1 := of_decide_eq_true h1
  have e : x / 2 ^ i / 2 = y / 2 ^ i / 2 := by
    apply Nat.eq_of_testBit_eq
    intro j
    rw [← Nat.testBit_succ, ← Nat.testBit_succ, Nat.testBit_div_two_pow, Nat.testBit_div_two_pow]
    exact he _ (by omega)
  have hlt : x / 2 ^ i < y / 2 ^ i := by omega
  rcases Nat.lt_or_ge x y with q | q
  · exact q
  · have := Nat.div_le_div_right (c := 2 ^ i) q
    omega
theorem lex_lt {n v w i : Nat} (hi : i < n) (hv : v < 2 ^ n) (hw : w < 2 ^ n) (he : ∀ j, j < i → wd n v j = wd n w j) (h0 : wd n v i = false) (h1 : wd n w i = true) : v < w := by
  refine lt_tb (i := n - 1 - i) h0 h1 (fun j hj => ?_)
  by_cases hjn : j < n
  · have h := he (n - 1 - j) (by omega)
    unfold wd at h
    rw [show n - 1 - (n - 1 - j) = j by omega] at h
    exact h
  · rw [tb_big hv (by omega), tb_big hw (by omega)]
theorem lex_ex {n v w : Nat} (hv : v < 2 ^ n) (hw : w < 2 ^ n) (h : v < w) : ∃ i, i < n ∧ (∀ j, j < i → wd n v j = wd n w j) ∧ wd n v i = false ∧ wd n w i = true := by
  have hne : ∃ i, i < n ∧ wd n v i ≠ wd n w i := by
    refine Classical.byContradiction (fun hc => ?_)
    have : v = w := set_ext hv hw (fun i hi => by
      refine Classical.byContradiction (fun hc2 => hc ⟨n - 1 - i, by omega, ?_⟩)
      unfold wd
      rw [show n - 1 - (n - 1 - i) = i by omega]
      exact hc2)
    omega
  obtain ⟨i, hi, h1, h2⟩ := fb_first (p := fun i => wd n v i ≠ wd n w i) hne
  have h2' : ∀ j, j < i → wd n v j = wd n w j := fun j hj => Classical.byContradiction (h2 j hj)
  cases a : wd n v i with
  | false =>
    cases b : wd n w i with
    | false => rw [a, b] at h1; exact absurd rfl h1
    | true => exact ⟨i, hi, h2', a, b⟩
  | true =>
    cases b : wd n w i with
    | true => rw [a, b] at h1; exact absurd rfl h1
    | false =>
      have := lex_lt hi hw hv (fun j hj => (h2' j hj).symm) b a
      omega
theorem wd_mv {n v t i : Nat} (hv : v < 2 ^ n) (ht : t < n) (hi : i < n) : wd n (mv n v t) i = wd n v ((i + t) % n) := by
  unfold wd
  rw [mv_tb hv ht (by omega)]
  congr 1
  rw [mod2 (n := n) (x := n - 1 - i + n - t) (by omega), mod2 (n := n) (x := i + t) (by omega)]
  split <;> split <;> omega
def NK (n v : Nat) : Prop := ∀ t, 0 < t → t < n → v ≤ mv n v t
/-- the head of so many letters: its period, its root less than all its ends -/
def Pre (a : Nat → Bool) (L p : Nat) : Prop := 1 ≤ p ∧ p ≤ L ∧ (∀ i, p ≤ i → i < L → a i = a (i - p)) ∧ ∀ r, 0 < r → r < p → ∃ i, r + i < p ∧ a (r + i) = true ∧ a i = false ∧ ∀ j, j < i → a (r + j) = a j
theorem Pre.per {a : Nat → Bool} {L p : Nat} (h : Pre a L p) : ∀ i, i < L → a i = a (i % p) := by
  intro i
  induction i using Nat.strongRecOn with
  | _ i ih =>
    intro hi
    by_cases hc : i < p
    · rw [Nat.mod_eq_of_lt hc]
    · rw [h.2.2.1 i (by omega) hi, ih (i - p) (by have := h.1; omega) (by omega)]
      congr 1
      exact (Nat.mod_eq_sub_mod (by omega)).symm
theorem pre_1 (a : Nat → Bool) : Pre a 1 1 := ⟨Nat.le_refl 1, Nat.le_refl 1, fun i h1 h2 => by omega, fun r h1 h2 => by omega⟩
theorem pre_same {a : Nat → Bool} {L p : Nat} (h : Pre a L p) (he : a L = a (L - p)) : Pre a (L + 1) p := by
  refine ⟨h.1, by have := h.2.1; omega, fun i h1 h2 => ?_, h.2.2.2⟩
  by_cases hc : i < L
  · exact h.2.2.1 i h1 hc
  · rw [show i = L by omega]; exact he
theorem pre_more {a : Nat → Bool} {L p : Nat} (h : Pre a L p) (h1 : a L = true) (h0 : a (L - p) = false) : Pre a (L + 1) (L + 1) := by
  have hp1 := h.1
  have hpL := h.2.1
  have per := h.per
  have eLp : a (L % p) = false := by
    rw [← h0, per (L - p) (by omega), ← Nat.mod_eq_sub_mod hpL]
  refine ⟨by omega, Nat.le_refl _, fun i h1 h2 => by omega, fun r hr1 hr2 => ?_⟩
  have hmod : ∀ j, r + j < L → a (r + j) = a ((r % p + j) % p) := fun j hj => by
    rw [per (r + j) hj, Nat.mod_add_mod]
  by_cases hρ : r % p = 0
  · refine ⟨L - r, by omega, by rw [show r + (L - r) = L by omega]; exact h1, ?_, fun j hj => ?_⟩
    · have hrp : p ≤ r := by
        rcases Nat.lt_or_ge r p with q | q
        · rw [Nat.mod_eq_of_lt q] at hρ; omega
        · exact q
      rw [per (L - r) (by omega), ← eLp]
      congr 1
      have e : L = (L - r) + r := by omega
      conv => rhs; rw [e, Nat.add_mod, hρ, Nat.add_zero, Nat.mod_mod]
    · rw [hmod j (by omega), hρ, Nat.zero_add, ← per j (by omega)]
  · have hρp := Nat.mod_lt r hp1
    obtain ⟨i0, c1, c2, c3, c4⟩ := h.2.2.2 (r % p) (by omega) hρp
    by_cases hc : r + i0 < L
    · refine ⟨i0, by omega, ?_, c3, fun j hj => ?_⟩
      · rw [hmod i0 hc, Nat.mod_eq_of_lt c1]; exact c2
      · rw [hmod j (by omega), Nat.mod_eq_of_lt (by omega)]; exact c4 j hj
    · refine ⟨L - r, by omega, by rw [show r + (L - r) = L by omega]; exact h1, ?_, fun j hj => ?_⟩
      · rcases Nat.lt_or_ge (L - r) i0 with q | q
        · have e : L % p = r % p + (L - r) := by
            have h5 : (r % p + (L - r)) % p = (r + (L - r)) % p := Nat.mod_add_mod _ _ _
            rw [show r + (L - r) = L by omega, Nat.mod_eq_of_lt (show r % p + (L - r) < p by omega)] at h5
            exact h5.symm
          rw [← c4 (L - r) q, ← e]
          exact eLp
        · rw [show L - r = i0 by omega]; exact c3
      · rw [hmod j (by omega), Nat.mod_eq_of_lt (by omega)]; exact c4 j (by omega)
theorem pre_cong {a b : Nat → Bool} {L p : Nat} (h : Pre a L p) (he : ∀ i, i < L → b i = a i) : Pre b L p := by
  have hpL := h.2.1
  refine ⟨h.1, h.2.1, fun i h1 h2 => ?_, fun r h1 h2 => ?_⟩
  · rw [he i h2, he (i - p) (by omega)]; exact h.2.2.1 i h1 h2
  · obtain ⟨i, c1, c2, c3, c4⟩ := h.2.2.2 r h1 h2
    exact ⟨i, c1, by rw [he _ (by omega)]; exact c2, by rw [he _ (by omega)]; exact c3, fun j hj => by rw [he _ (by omega), he _ (by omega)]; exact c4 j hj⟩
theorem nk_ge {n w L p : Nat} (hw : w < 2 ^ n) (hN : NK n w) (hP : Pre (wd n w) L p) (hL : L < n) (h1 : wd n w (L - p) = true) : wd n w L = true := by
  cases hc : wd n w L with
  | true => rfl
  | false =>
    exfalso
    have hp1 := hP.1
    have hpL := hP.2.1
    have hlt : mv n w p < w := by
      refine lex_lt (i := L - p) (by omega) (mv_lt _ _ _) hw (fun j hj => ?_) ?_ h1
      · rw [wd_mv hw (by omega) (by omega), Nat.mod_eq_of_lt (by omega), hP.2.2.1 (j + p) (by omega) (by omega), Nat.add_sub_cancel]
      · rw [wd_mv hw (by omega) (by omega), show L - p + p = L by omega, Nat.mod_eq_of_lt hL]
        exact hc
    have := hN p (by omega) (by omega)
    omega
theorem nk_pre {n v : Nat} (hv : v < 2 ^ n) (hN : NK n v) : ∀ L, 1 ≤ L → L ≤ n → ∃ p, Pre (wd n v) L p := by
  intro L
  induction L with
  | zero => intro h; omega
  | succ L ih =>
    intro _ hL
    by_cases h0 : L = 0
    · subst h0; exact ⟨1, pre_1 _⟩
    · obtain ⟨p, hP⟩ := ih (by omega) (by omega)
      by_cases he : wd n v L = wd n v (L - p)
      · exact ⟨p, pre_same hP he⟩
      · cases hc : wd n v (L - p) with
        | true =>
          rw [nk_ge hv hN hP (by omega) hc, hc] at he
          exact absurd rfl he
        | false =>
          refine ⟨L + 1, pre_more hP ?_ hc⟩
          cases hc2 : wd n v L with
          | true => rfl
          | false => rw [hc, hc2] at he; exact absurd rfl he
theorem nk_iff_dvd {n w p : Nat} (hn : 0 < n) (hw : w < 2 ^ n) (hP : Pre (wd n w) n p) : NK n w ↔ n % p = 0 := by
  have hp1 := hP.1
  have hpn := hP.2.1
  have per := hP.per
  constructor
  · intro hN
    refine Classical.byContradiction (fun hρ => ?_)
    have hρp := Nat.mod_lt n hp1
    obtain ⟨i0, c1, c2, c3, c4⟩ := hP.2.2.2 (n % p) (by omega) hρp
    have hpn2 : n % p < n := by omega
    have hle := hN (n - n % p) (by omega) (by omega)
    have hlt : mv n w (n - n % p) < w := by
      refine lex_lt (i := n % p + i0) (by omega) (mv_lt _ _ _) hw (fun j hj => ?_) ?_ c2
      · rw [wd_mv hw (by omega) (by omega)]
        by_cases hj2 : j < n % p
        · rw [Nat.mod_eq_of_lt (by omega), per _ (by omega), per j (by omega)]
          congr 1
          have e : j + (n - n % p) = j + p * (n / p) := by have := Nat.div_add_mod n p; omega
          rw [e, Nat.add_mul_mod_self_left]
        · rw [show j + (n - n % p) = (j - n % p) + n by omega, Nat.add_mod_right, Nat.mod_eq_of_lt (by omega), ← c4 (j - n % p) (by omega), show n % p + (j - n % p) = j by omega]
      · rw [wd_mv hw (by omega) (by omega), show n % p + i0 + (n - n % p) = i0 + n by omega, Nat.add_mod_right, Nat.mod_eq_of_lt (by omega)]
        exact c3
    omega
  · intro hd t ht1 ht2
    have hmm : ∀ x, (x % n) % p = x % p := by
      intro x
      have e : n = p * (n / p) := by have := Nat.div_add_mod n p; omega
      rw [e, Nat.mod_mul_right_mod]
    have letter : ∀ i, i < n → wd n (mv n w t) i = wd n w ((t % p + i) % p) := by
      intro i hi
      rw [wd_mv hw ht2 hi, per _ (Nat.mod_lt _ hn), hmm, Nat.add_comm, Nat.mod_add_mod]
    by_cases hρ : t % p = 0
    · have e : mv n w t = w := by
        refine set_ext (mv_lt _ _ _) hw (fun i hi => ?_)
        have h := letter (n - 1 - i) (by omega)
        rw [hρ, Nat.zero_add, ← per _ (by omega)] at h
        unfold wd at h
        rw [show n - 1 - (n - 1 - i) = i by omega] at h
        exact h
      rw [e]
      exact Nat.le_refl w
    · have hρp := Nat.mod_lt t hp1
      obtain ⟨i0, c1, c2, c3, c4⟩ := hP.2.2.2 (t % p) (by omega) hρp
      refine Nat.le_of_lt (lex_lt (i := i0) (by omega) hw (mv_lt _ _ _) (fun j hj => ?_) c3 ?_)
      · rw [letter j (by omega), Nat.mod_eq_of_lt (by omega), c4 j hj]
      · rw [letter i0 (by omega), Nat.mod_eq_of_lt c1]
        exact c2
/-! ===== the class's next necklace ===== -/
def Cn (n ones w : Nat) : Prop := w < 2 ^ n ∧ NK n w ∧ bc w = ones
def Rs (n ones lo hi : Nat) (x : Int32) : Prop := (x = -1 ∧ ∀ w, lo ≤ w → w < hi → ¬ Cn n ones w) ∨ ∃ w, x = nI w ∧ lo ≤ w ∧ w < hi ∧ Cn n ones w ∧ ∀ u, lo ≤ u → u < w → ¬ Cn n ones u
theorem J_ne1 {v : Nat} (hv : v < 2 ^ 31) : ¬ nI v = (-1 : Int32) := by
  intro q
  have := congrArg Int32.toInt q
  rw [nI_toInt hv, show (-1 : Int32).toInt = -1 from by decide] at this
  omega
theorem wd_head {n m x y w i : Nat} (hm : m ≤ n) (hx : w = 2 ^ m * x + y) (hy : y < 2 ^ m) (hi : i < n - m) : wd n w i = wd n (2 ^ m * x) i := by
  unfold wd
  have h2 := Nat.testBit_two_pow_mul_add x (i := m) (b := 0) (Nat.two_pow_pos m) (n - 1 - i)
  rw [Nat.add_zero] at h2
  rw [hx, Nat.testBit_two_pow_mul_add x hy, h2, if_neg (by omega), if_neg (by omega)]
theorem sp_completed {n ones : Nat} (h0 : 0 < n) (hn : n ≤ 24) (hones : ones ≤ n) : ∀ (m d at_ x p : Nat) (Q : Int32 → Prop), m < d → at_ + m = n → 1 ≤ at_ → 2 ^ m * x < 2 ^ n → Pre (wd n (2 ^ m * x)) at_ p → (∀ r, Rs n ones (2 ^ m * x) (2 ^ m * x + 2 ^ m) r → Q r) → wp_X4_completed d (nI n) (nI ones) (nI (2 ^ m * x)) (nI at_) (nI p) Q
  | m, 0, _, _, _, _, hmd, _, _, _, _, _ => absurd hmd (Nat.not_lt_zero _)
  | m, d + 1, at_, x, p, Q, hmd, ham, hat, hx, hP, hQ => by
    have hpw : 2 ^ n ≤ 2 ^ 24 := Nat.pow_le_pow_right (by omega) hn
    have hp1 := hP.1
    have hpL := hP.2.1
    have hmn : 2 ^ n = 2 ^ m * 2 ^ at_ := by rw [← Nat.pow_add]; congr 1; omega
    have hxa : x < 2 ^ at_ := by
      rw [hmn] at hx
      exact Nat.lt_of_mul_lt_mul_left hx
    have hpm := Nat.two_pow_pos m
    have hx32 : x < 2 ^ (32 - m) := Nat.lt_of_lt_of_le hxa (Nat.pow_le_pow_right (by omega) (by omega))
    have hbx : bc (2 ^ m * x) = bc x := by
      have h3 := bc_split (k := m) (x := x) (y := 0) (by omega) hpm hx32
      rw [Nat.add_zero, bc_0] at h3
      exact h3
    have hbl := bc_le hx (by omega : n ≤ 32)
    -- what lies in the range
    have rng : ∀ w, 2 ^ m * x ≤ w → w < 2 ^ m * x + 2 ^ m → ∃ y, y < 2 ^ m ∧ w = 2 ^ m * x + y ∧ bc w = bc (2 ^ m * x) + bc y := by
      intro w h1 h2
      refine ⟨w - 2 ^ m * x, by omega, by omega, ?_⟩
      have h3 := bc_split (k := m) (x := x) (y := w - 2 ^ m * x) (by omega) (by omega) hx32
      rw [show 2 ^ m * x + (w - 2 ^ m * x) = w by omega] at h3
      rw [h3, hbx]
    unfold wp_X4_completed wb_X4_completed wp_X4_completed_j22 wp_X4_completed_j43 wp_X4_completed_j121
    refine sp_bitCount (by omega) ?_
    refine b_lt (by omega) (by omega) (fun q => ?_) (fun q => ?_)
    · refine hQ _ (Or.inl ⟨rfl, fun w h1 h2 hc => ?_⟩)
      obtain ⟨y, _, _, hb⟩ := rng w h1 h2
      have := hc.2.2
      omega
    · rw [nI_add, pk_sub (by omega)]
      refine b_le (by omega) (by omega) (fun q2 => ?_) (fun q2 => ?_)
      · refine b_lt (by omega) (by omega) (fun q3 => ?_) (fun q3 => ?_)
        · obtain ⟨m', rfl⟩ : ∃ m', m = m' + 1 := ⟨m - 1, by omega⟩
          have hpm' := Nat.two_pow_pos m'
          have e2 : 2 ^ (m' + 1) = 2 ^ m' + 2 ^ m' := by rw [Nat.pow_succ]; omega
          have eH : 2 ^ (m' + 1) * x = 2 ^ m' * (2 * x) := by rw [Nat.pow_succ, Nat.mul_assoc]
          have eO : 2 ^ m' * (2 * x + 1) = 2 ^ (m' + 1) * x + 2 ^ m' := by rw [Nat.mul_add, Nat.mul_one, eH]
          have hOr : 2 ^ (m' + 1) * x ||| 2 ^ m' = 2 ^ (m' + 1) * x + 2 ^ m' := (Nat.two_pow_add_eq_or_of_lt (by omega) x).symm
          have hrange : 2 ^ (m' + 1) * x + 2 ^ (m' + 1) ≤ 2 ^ n := by
            have : 2 ^ (m' + 1) * (x + 1) ≤ 2 ^ (m' + 1) * 2 ^ at_ := Nat.mul_le_mul_left _ hxa
            rw [Nat.mul_add, Nat.mul_one, ← hmn] at this
            exact this
          have hO : 2 ^ m' * (2 * x + 1) < 2 ^ n := by omega
          have hH : 2 ^ m' * (2 * x) < 2 ^ n := by rw [← eH]; exact hx
          -- letters
          have letH : ∀ i, i < at_ → wd n (2 ^ m' * (2 * x)) i = wd n (2 ^ (m' + 1) * x) i := fun i hi => by rw [eH]
          have letO : ∀ i, i < at_ → wd n (2 ^ m' * (2 * x + 1)) i = wd n (2 ^ (m' + 1) * x) i := fun i hi => wd_head (m := m' + 1) (by omega) eO (by omega) (by omega)
          have atH : wd n (2 ^ m' * (2 * x)) at_ = false := by
            unfold wd
            have h2 := Nat.testBit_two_pow_mul_add (2 * x) (i := m') (b := 0) hpm' (n - 1 - at_)
            rw [Nat.add_zero] at h2
            rw [h2, if_neg (by omega), show n - 1 - at_ - m' = 0 by omega, Nat.testBit_zero]
            simp
          have atO : wd n (2 ^ m' * (2 * x + 1)) at_ = true := by
            unfold wd
            have h2 := Nat.testBit_two_pow_mul_add (2 * x + 1) (i := m') (b := 0) hpm' (n - 1 - at_)
            rw [Nat.add_zero] at h2
            rw [h2, if_neg (by omega), show n - 1 - at_ - m' = 0 by omega, Nat.testBit_zero]
            simp
          intro x5 e5
          rw [show (1 : Int32) = nI 1 from rfl, pk_sub (by omega), pk_sub (by omega), show nI 1 <<< (nI (n - 1 - at_) &&& 31) = nI (2 ^ (n - 1 - at_)) from J_shl1 (by omega), show n - 1 - at_ = m' by omega, fa_or, hOr, ← eO] at e5
          subst e5
          rw [show (1 : Int32) = nI 1 from rfl, pk_sub (by omega), pk_sub (by omega), nI_add]
          refine sp_bit (by omega) (by omega) ?_
          have elet : (2 ^ (m' + 1) * x).testBit (n - 1 - at_ + p) = wd n (2 ^ (m' + 1) * x) (at_ - p) := by
            unfold wd
            congr 1
            omega
          rw [elet]
          rw [show nI at_ + nI 1 = nI (at_ + 1) from nI_add _ _]
          have pO : wd n (2 ^ (m' + 1) * x) (at_ - p) = false → Pre (wd n (2 ^ m' * (2 * x + 1))) (at_ + 1) (at_ + 1) := fun hb => pre_more (pre_cong hP letO) atO (by rw [letO _ (by omega)]; exact hb)
          cases hb : wd n (2 ^ (m' + 1) * x) (at_ - p) with
          | false =>
            refine ⟨fun _ => ?_, fun q => absurd q (by decide)⟩
            rw [eH]
            refine sp_completed h0 hn hones m' d (at_ + 1) (2 * x) p _ (by omega) (by omega) (by omega) hH (pre_same (pre_cong hP letH) (by rw [atH, letH _ (by omega), hb])) (fun r hr => ?_)
            rw [← eH] at hr
            rcases hr with ⟨rfl, hno⟩ | ⟨w, rfl, w1, w2, w3, w4⟩
            · refine ⟨fun _ => ?_, fun q => absurd rfl q⟩
              refine sp_completed h0 hn hones m' d (at_ + 1) (2 * x + 1) (at_ + 1) _ (by omega) (by omega) (by omega) hO (pO hb) (fun r hr => ?_)
              refine hQ r ?_
              rw [eO] at hr
              rcases hr with ⟨rfl, hno2⟩ | ⟨w, rfl, w1, w2, w3, w4⟩
              · refine Or.inl ⟨rfl, fun w h1 h2 => ?_⟩
                rcases Nat.lt_or_ge w (2 ^ (m' + 1) * x + 2 ^ m') with c | c
                · exact hno w h1 c
                · exact hno2 w c (by omega)
              · refine Or.inr ⟨w, rfl, by omega, by omega, w3, fun u h1 h2 => ?_⟩
                rcases Nat.lt_or_ge u (2 ^ (m' + 1) * x + 2 ^ m') with c | c
                · exact hno u h1 c
                · exact w4 u c h2
            · refine ⟨fun q => absurd q (J_ne1 (by omega)), fun _ => ?_⟩
              exact hQ _ (Or.inr ⟨w, rfl, w1, by omega, w3, w4⟩)
          | true =>
            refine ⟨fun q => absurd rfl q, fun _ => ?_⟩
            have no0 : ∀ w, 2 ^ (m' + 1) * x ≤ w → w < 2 ^ (m' + 1) * x + 2 ^ m' → ¬ Cn n ones w := by
              intro w h1 h2 hc
              have ew : w = 2 ^ m' * (2 * x) + (w - 2 ^ (m' + 1) * x) := by rw [← eH]; omega
              have letW : ∀ i, i < at_ + 1 → wd n w i = wd n (2 ^ m' * (2 * x)) i := fun i hi => wd_head (m := m') (by omega) ew (by omega) (by omega)
              have h3 := nk_ge hc.1 hc.2.1 (pre_cong hP (fun i hi => by rw [letW i (by omega), letH i hi])) (by omega) (by rw [letW _ (by omega), letH _ (by omega)]; exact hb)
              rw [letW at_ (by omega), atH] at h3
              cases h3
            refine sp_completed h0 hn hones m' d (at_ + 1) (2 * x + 1) p _ (by omega) (by omega) (by omega) hO (pre_same (pre_cong hP letO) (by rw [atO, letO _ (by omega), hb])) (fun r hr => ?_)
            refine hQ r ?_
            rw [eO] at hr
            rcases hr with ⟨rfl, hno2⟩ | ⟨w, rfl, w1, w2, w3, w4⟩
            · refine Or.inl ⟨rfl, fun w h1 h2 => ?_⟩
              rcases Nat.lt_or_ge w (2 ^ (m' + 1) * x + 2 ^ m') with c | c
              · exact no0 w h1 c
              · exact hno2 w c (by omega)
            · refine Or.inr ⟨w, rfl, by omega, by omega, w3, fun u h1 h2 => ?_⟩
              rcases Nat.lt_or_ge u (2 ^ (m' + 1) * x + 2 ^ m') with c | c
              · exact no0 u h1 c
              · exact w4 u c h2
        · have em : m = 0 := by omega
          subst em
          have ea : at_ = n := by omega
          subst ea
          have hbo : bc (2 ^ 0 * x) = ones := by omega
          have hdvd := nk_iff_dvd h0 hx hP
          refine sp_leftOver (by omega) hp1 (by omega) ?_
          have hm := Nat.mod_lt at_ hp1
          refine b_ne (b := 0) (by omega) (by omega) (fun q4 => hQ _ (Or.inl ⟨rfl, fun w h1 h2 hc => ?_⟩)) (fun q4 => hQ _ (Or.inr ⟨2 ^ 0 * x, rfl, Nat.le_refl _, by omega, ⟨hx, hdvd.mpr q4, hbo⟩, fun u h1 h2 => by omega⟩))
          have ew : w = 2 ^ 0 * x := by omega
          rw [ew] at hc
          exact q4 (hdvd.mp hc.2.1)
      · refine hQ _ (Or.inl ⟨rfl, fun w h1 h2 hc => ?_⟩)
        obtain ⟨y, hy, _, hb⟩ := rng w h1 h2
        have h3 := hc.2.2
        have h4 := bc_le hy (by omega : m ≤ 32)
        omega
