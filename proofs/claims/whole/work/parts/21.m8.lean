/-! ===== how many necklaces, how many bracelets ===== -/
def cho (n : Nat) : Nat → Nat
  | 0 => 1
  | j + 1 => cho n j * (n - j) / (j + 1)
theorem cho_le : ∀ n, n < 25 → ∀ k, k < 25 → k ≤ n → cho n k ≤ 2704156 := by decide +kernel
theorem sp_choose {n k : Nat} {Q : Int32 → Prop} (hn : n ≤ 24) (hk : k < 2 ^ 31) (h : Q (nI (if n < k then 0 else cho n k))) : wp_X0_choose (nI n) (nI k) Q := by
  unfold wp_X0_choose
  refine b_le hk (by omega) (fun q => ?_) (fun q => by rw [if_pos q] at h; exact h)
  rw [if_neg (by omega)] at h
  refine lp_up (P := fun z j => wp_X0_choose_h11 Q z (nI n) (nI k) (nI (cho n (j - 1))) (nI j)) (a := 1) (n := k + 1) (by omega) ⟨1, ?_⟩ (fun j h1 hj ⟨z, hz⟩ => ⟨z + 1, ?_⟩)
  · unfold wp_X0_choose_h11
    exact br_t (nI_lt (Nat.lt_succ_self k) (by omega)) h
  · obtain ⟨i, rfl⟩ : ∃ i, j = i + 1 := ⟨j - 1, by omega⟩
    have hc := cho_le n (by omega) i (by omega) (by omega)
    have hm : cho n i * (n - i) ≤ 2704156 * 24 := Nat.mul_le_mul hc (by omega)
    unfold wp_X0_choose_h11
    refine br_f (nI_nlt (by omega) (by omega)) ?_
    rw [nI_1, pk_sub (by omega), pk_mul, show n + 1 - (i + 1) = n - i by omega, show i + 1 - 1 = i by omega]
    refine sp_quotient (by omega) (by omega) (by omega) ?_
    intro x e
    rw [nI_1] at e
    rw [e]
    exact hz
theorem J_l0 {n : Nat} (h : n < 2 ^ 31) : (nI n).toInt64 = lN n := nI_l h
theorem sp_choose10 {n k : Nat} {Q : Int64 → Prop} (hn : n ≤ 24) (hk : k ≤ n) (h : Q (lN (cho n k))) : wp_X10_choose (nI n) (nI k) Q := by
  unfold wp_X10_choose
  refine lp_up (P := fun z j => wp_X10_choose_h5 Q z (nI n) (nI k) (lN (cho n j)) (nI j)) (a := 0) (n := k) (by omega) ⟨1, ?_⟩ (fun j _ hj ⟨z, hz⟩ => ⟨z + 1, ?_⟩)
  · unfold wp_X10_choose_h5
    exact br_t (nI_le (Nat.le_refl k) (by omega)) h
  · have hc := cho_le n (by omega) j (by omega) (by omega)
    have hm : cho n j * (n - j) ≤ 2704156 * 24 := Nat.mul_le_mul hc (by omega)
    unfold wp_X10_choose_h5
    refine br_f (nI_ge hj (by omega)) ?_
    rw [nI_1, pk_sub (by omega), J_l0 (by omega), J_l0 (by omega)]
    refine ⟨fun q => ?_, ?_⟩
    · have := (pk_lEQ (a := j + 1) (b := 0) (by omega) (by omega)).mp q
      omega
    · intro x2 e2 x3 e3
      rw [lN_mul, pk_lDiv (by omega) (by omega) (by omega)] at e2
      rw [e2, e3]
      exact hz
theorem sp_common {a b : Nat} {Q : Int32 → Prop} (h : Q (nI (Nat.gcd a b))) (ha : a < 2 ^ 31) (hb : b < 2 ^ 31) : wp_X10_common (nI a) (nI b) Q := by
  have key : ∀ b, b < 2 ^ 31 → ∀ a, a < 2 ^ 31 → Q (nI (Nat.gcd a b)) → ∃ k, wp_X10_common_h4 Q k (nI a) (nI b) := by
    intro b
    induction b using Nat.strongRecOn with
    | _ b ih =>
      intro hb a ha h
      by_cases h0 : b = 0
      · subst h0
        refine ⟨1, ?_⟩
        unfold wp_X10_common_h4
        rw [Nat.gcd_zero_right] at h
        exact br_t (by decide) h
      · have hm := Nat.mod_lt a (show 0 < b by omega)
        obtain ⟨k, hk⟩ := ih (a % b) hm (by omega) b hb (by rw [Nat.gcd_comm, ← Nat.gcd_rec, Nat.gcd_comm]; exact h)
        refine ⟨k + 1, ?_⟩
        unfold wp_X10_common_h4
        refine br_f (nI_ne0 (by omega) hb) ⟨nI_ne0 (by omega) hb, ?_⟩
        intro x e
        rw [pk_rem ha (by omega) hb] at e
        rw [e]
        exact hk
  unfold wp_X10_common
  exact key b hb a ha h
/-- the class's greatest common divisor: tried from above -/
def cdf (n t : Nat) : Nat → Nat
  | 0 => 1
  | 1 => 1
  | d + 2 => if n % (d + 2) = 0 ∧ t % (d + 2) = 0 then d + 2 else cdf n t (d + 1)
theorem cdf_gcd : ∀ n, n < 25 → ∀ t, t < 25 → 0 < n → cdf n t n = Nat.gcd n t := by decide +kernel
theorem sp_commonDivisor {n t : Nat} {Q : Int32 → Prop} (h0 : 0 < n) (hn : n ≤ 24) (ht : t ≤ 24) (h : Q (nI (Nat.gcd n t))) : wp_X0_commonDivisor (nI n) (nI t) Q := by
  rw [← cdf_gcd n (by omega) t (by omega) h0] at h
  have key : ∀ d, d ≤ 24 → Q (nI (cdf n t d)) → ∃ k, wp_X0_commonDivisor_h2 Q k (nI n) (nI t) (nI d) := by
    intro d
    induction d with
    | zero =>
      intro _ h
      refine ⟨1, ?_⟩
      unfold wp_X0_commonDivisor_h2
      exact br_t (by decide) h
    | succ d ih =>
      intro hd h
      by_cases hd0 : d = 0
      · subst hd0
        refine ⟨1, ?_⟩
        unfold wp_X0_commonDivisor_h2
        exact br_t (by decide) h
      · obtain ⟨e, rfl⟩ : ∃ e, d = e + 1 := ⟨d - 1, by omega⟩
        have hm1 := Nat.mod_lt n (show 0 < e + 2 by omega)
        have hm2 := Nat.mod_lt t (show 0 < e + 2 by omega)
        have hm3 : n % (e + 1 + 1) < e + 2 := hm1
        have hm4 : t % (e + 1 + 1) < e + 2 := hm2
        have e9 : cdf n t (e + 1 + 1) = if n % (e + 2) = 0 ∧ t % (e + 2) = 0 then e + 2 else cdf n t (e + 1) := rfl
        by_cases hc : n % (e + 2) = 0 ∧ t % (e + 2) = 0
        · rw [e9, if_pos hc] at h
          refine ⟨1, ?_⟩
          unfold wp_X0_commonDivisor_h2
          refine br_f (nI_ge (a := 1) (by omega) (by omega)) ?_
          refine sp_leftOver (by omega) (by omega) (by omega) ?_
          rw [show e + 1 + 1 = e + 2 from rfl, hc.1]
          refine ⟨fun q => absurd rfl q, fun _ => ?_⟩
          refine sp_leftOver (by omega) (by omega) (by omega) ?_
          rw [hc.2]
          exact ⟨fun q => absurd rfl q, fun _ => h⟩
        · rw [e9, if_neg hc] at h
          obtain ⟨k, hk⟩ := ih (by omega) h
          have step : wp_X0_commonDivisor_j25 (wp_X0_commonDivisor_h2 Q k) Q (nI n) (nI t) (nI (e + 2)) := by
            unfold wp_X0_commonDivisor_j25
            intro x ex
            rw [sb_m1 (by omega)] at ex
            rw [ex]
            exact hk
          refine ⟨k + 1, ?_⟩
          unfold wp_X0_commonDivisor_h2
          refine br_f (nI_ge (a := 1) (by omega) (by omega)) ?_
          refine sp_leftOver (by omega) (by omega) (by omega) ?_
          refine b_ne (b := 0) (by omega) (by omega) (fun _ => step) (fun q => ?_)
          refine sp_leftOver (by omega) (by omega) (by omega) ?_
          refine b_ne (b := 0) (by omega) (by omega) (fun _ => step) (fun q2 => absurd ⟨q, q2⟩ hc)
  unfold wp_X0_commonDivisor
  exact key n hn h
/-- what all turns keep -/
def kt1 (n k t : Nat) : Nat := if k % (n / Nat.gcd n t) = 0 then cho (Nat.gcd n t) (k / (n / Nat.gcd n t)) else 0
def kbt (n k : Nat) : Nat → Nat
  | 0 => 0
  | t + 1 => kbt n k t + kt1 n k t
theorem all_r {N : Nat} {p : Nat → Bool} (h : (List.range N).all p = true) {i : Nat} (hi : i < N) : p i = true := List.all_eq_true.mp h i (List.mem_range.mpr hi)
theorem kbt_all : (List.range 25).all (fun n => (List.range 25).all (fun k => decide (0 < n → k ≤ n → kbt n k n ≤ 70000000))) = true := by decide +kernel
theorem kbt_le {n k : Nat} (hn : n ≤ 24) (h0 : 0 < n) (hk : k ≤ n) : kbt n k n ≤ 70000000 := by
  have h := all_r (all_r kbt_all (show n < 25 by omega)) (show k < 25 by omega)
  exact of_decide_eq_true h h0 hk
theorem gcd_all : (List.range 25).all (fun n => (List.range 25).all (fun t => decide (0 < n → 0 < Nat.gcd n t ∧ Nat.gcd n t ≤ n ∧ 0 < n / Nat.gcd n t ∧ n / Nat.gcd n t ≤ n) && (List.range 25).all (fun k => decide (0 < n → k ≤ n → k / (n / Nat.gcd n t) ≤ Nat.gcd n t)))) = true := by decide +kernel
theorem gcd_ok {n t : Nat} (hn : n ≤ 24) (ht : t ≤ 24) (h0 : 0 < n) : 0 < Nat.gcd n t ∧ Nat.gcd n t ≤ n ∧ 0 < n / Nat.gcd n t ∧ n / Nat.gcd n t ≤ n ∧ ∀ k, k ≤ n → k / (n / Nat.gcd n t) ≤ Nat.gcd n t := by
  have h := all_r (all_r gcd_all (show n < 25 by omega)) (show t < 25 by omega)
  rw [Bool.and_eq_true] at h
  obtain ⟨a1, a2, a3, a4⟩ := of_decide_eq_true h.1 h0
  exact ⟨a1, a2, a3, a4, fun k hk => of_decide_eq_true (all_r h.2 (show k < 25 by omega)) h0 hk⟩
theorem sp_keptByTurns {n k : Nat} {Q : Int32 → Prop} (h0 : 0 < n) (hn : n ≤ 24) (hk : k ≤ n) (h : Q (nI (kbt n k n))) : wp_X0_keptByTurns (nI n) (nI k) Q := by
  unfold wp_X0_keptByTurns
  refine lp_up (P := fun z j => wp_X0_keptByTurns_h4 Q z (nI n) (nI k) (nI (kbt n k j)) (nI j)) (a := 0) (n := n) (by omega) ⟨1, ?_⟩ (fun j _ hj ⟨z, hz⟩ => ⟨z + 1, ?_⟩)
  · unfold wp_X0_keptByTurns_h4
    exact br_t (nI_le (Nat.le_refl n) (by omega)) h
  · obtain ⟨g1, g2, g3, g4, g5⟩ := gcd_ok hn (show j ≤ 24 by omega) h0
    have g6 := g5 k hk
    unfold wp_X0_keptByTurns_h4
    refine br_f (nI_ge hj (by omega)) ?_
    refine sp_commonDivisor h0 hn (by omega) ?_
    refine sp_quotient (by omega) g1 (by omega) ?_
    refine sp_leftOver (by omega) g3 (by omega) ?_
    have hm := Nat.mod_lt k g3
    have step : ∀ (x : Int32), x = nI (kbt n k (j + 1)) → wp_X0_keptByTurns_j47 (wp_X0_keptByTurns_h4 Q z) Q (nI n) (nI k) x (nI j) := by
      intro x hx
      unfold wp_X0_keptByTurns_j47
      intro x1 e1
      rw [nI_1] at e1
      rw [hx, e1]
      exact hz
    refine b_ne (b := 0) (by omega) (by omega) (fun q => step _ ?_) (fun q => ?_)
    · rw [kbt, kt1, if_neg q, Nat.add_zero]
    · refine sp_quotient (by omega) g3 (by omega) ?_
      refine sp_choose (by omega) (by omega) ?_
      rw [if_neg (by omega)]
      intro x9 e9
      refine step x9 ?_
      rw [e9, nI_add, kbt, kt1, if_pos q]
theorem sp_turned {n k : Nat} {Q : Int32 → Prop} (h0 : 0 < n) (hn : n ≤ 24) (hk : k ≤ n) (h : Q (nI (kbt n k n / n))) : wp_X0_turned (nI n) (nI k) Q := by
  have hb := kbt_le hn h0 hk
  unfold wp_X0_turned
  refine sp_keptByTurns h0 hn hk ?_
  exact sp_quotient (by omega) h0 (by omega) h
theorem sp_necklacesOf {n k : Nat} {Q : Int64 → Prop} (h0 : 0 < n) (hn : n ≤ 24) (hk : k ≤ n) (h : Q (lN (kbt n k n / n))) : wp_X10_necklacesOf (nI n) (nI k) Q := by
  have hb := kbt_le hn h0 hk
  unfold wp_X10_necklacesOf
  refine lp_up (P := fun z j => wp_X10_necklacesOf_h5 Q z (nI n) (nI k) (lN (kbt n k j)) (nI j)) (a := 0) (n := n) (by omega) ⟨1, ?_⟩ (fun j _ hj ⟨z, hz⟩ => ⟨z + 1, ?_⟩)
  · unfold wp_X10_necklacesOf_h5
    refine br_t (nI_le (Nat.le_refl n) (by omega)) ?_
    rw [J_l0 (by omega)]
    refine ⟨fun q => ?_, ?_⟩
    · have := (pk_lEQ (a := n) (b := 0) (by omega) (by omega)).mp q
      omega
    · rw [pk_lDiv (by omega) h0 (by omega)]
      exact h
  · obtain ⟨g1, g2, g3, g4, g5⟩ := gcd_ok hn (show j ≤ 24 by omega) h0
    have g6 := g5 k hk
    unfold wp_X10_necklacesOf_h5
    refine br_f (nI_ge hj (by omega)) ?_
    refine sp_common ?_ (by omega) (by omega)
    refine ⟨nI_ne0 g1 (by omega), ?_⟩
    intro x5 e5
    rw [pk_div (by omega) g1 (by omega)] at e5
    subst e5
    refine ⟨nI_ne0 g3 (by omega), ?_⟩
    rw [pk_rem (by omega) g3 (by omega)]
    have hm := Nat.mod_lt k g3
    have step : ∀ (y : Nat), y = kt1 n k j → wp_X10_necklacesOf_j46 (wp_X10_necklacesOf_h5 Q z) Q (nI n) (nI k) (nI j) (lN (kbt n k j)) (lN y) := by
      intro y hy
      unfold wp_X10_necklacesOf_j46
      intro x1 e1 x2 e2
      rw [lN_add] at e1
      rw [nI_1] at e2
      rw [e1, e2, hy]
      exact hz
    refine b_ne (b := 0) (by omega) (by omega) (fun q => step 0 ?_) (fun q => ⟨nI_ne0 g3 (by omega), ?_⟩)
    · rw [kt1, if_neg q]
    · rw [pk_div (by omega) g3 (by omega)]
      refine sp_choose10 (by omega) g6 ?_
      exact step _ (by rw [kt1, if_pos q])
/-- what all mirrors keep -/
def stl (n ax : Nat) : Nat → Nat
  | 0 => 0
  | b + 1 => if (2 * b + n - ax) % n = 0 then stl n ax b + 1 else stl n ax b
def chz (n k : Nat) : Nat := if n < k then 0 else cho n k
def kmi (k st pr : Nat) : Nat → Nat
  | 0 => 0
  | j + 1 => kmi k st pr j + (if (k - j) % 2 = 0 then chz st j * chz pr ((k - j) / 2) else 0)
def kbm (n k : Nat) : Nat → Nat
  | 0 => 0
  | ax + 1 => kbm n k ax + kmi k (stl n ax n) ((n - stl n ax n) / 2) (min (stl n ax n) k + 1)
def mir (n k : Nat) : Nat := if n % 2 = 1 then cho ((n - 1) / 2) (k / 2) else if k % 2 = 1 then cho (n / 2 - 1) (k / 2) else cho (n / 2) (k / 2)
theorem stl_le (n ax : Nat) : ∀ b, stl n ax b ≤ b
  | 0 => Nat.le_refl 0
  | b + 1 => by
    have := stl_le n ax b
    unfold stl
    split <;> omega
theorem brac_eq : ∀ n, n < 25 → ∀ k, k < 25 → 0 < n → k ≤ n → (kbt n k n + kbm n k n) / (2 * n) = (kbt n k n / n + mir n k) / 2 ∧ kbm n k n ≤ 70000000 ∧ mir n k ≤ 70000000 := by decide +kernel
theorem stl_2 : ∀ n, n < 25 → ∀ ax, ax < 25 → ax < n → stl n ax n ≤ 2 := by decide +kernel
theorem sp_stillBeats {n ax : Nat} {Q : Int32 → Prop} (hn : n ≤ 24) (ha : ax < n) (h : Q (nI (stl n ax n))) : wp_X0_stillBeats (nI n) (nI ax) Q := by
  unfold wp_X0_stillBeats
  refine lp_up (P := fun z j => wp_X0_stillBeats_h4 Q z (nI n) (nI ax) (nI (stl n ax j)) (nI j)) (a := 0) (n := n) (by omega) ⟨1, ?_⟩ (fun j _ hj ⟨z, hz⟩ => ⟨z + 1, ?_⟩)
  · unfold wp_X0_stillBeats_h4
    exact br_t (nI_le (Nat.le_refl n) (by omega)) h
  · unfold wp_X0_stillBeats_h4
    refine br_f (nI_ge hj (by omega)) ?_
    rw [show (2 : Int32) = nI 2 from rfl, pk_mul]
    refine sp_leftOverS (by omega) (by omega) (by omega) (by omega) ?_
    have hm := Nat.mod_lt (2 * j + n - ax) (show 0 < n by omega)
    have step : ∀ (x : Int32), x = nI (stl n ax (j + 1)) → wp_X0_stillBeats_j24 (wp_X0_stillBeats_h4 Q z) Q (nI n) (nI ax) x (nI j) := by
      intro x hx
      unfold wp_X0_stillBeats_j24
      intro x1 e1
      rw [nI_1] at e1
      rw [hx, e1]
      exact hz
    refine b_ne (b := 0) (by omega) (by omega) (fun q => step _ ?_) (fun q => ?_)
    · rw [stl, if_neg q]
    · intro x5 e5
      rw [nI_1] at e5
      exact step x5 (by rw [e5, stl, if_pos q])
theorem sp_keptByMirrors {n k : Nat} {Q : Int32 → Prop} (h0 : 0 < n) (hn : n ≤ 24) (hk : k ≤ n) (h : Q (nI (kbm n k n))) : wp_X0_keptByMirrors (nI n) (nI k) Q := by
  unfold wp_X0_keptByMirrors
  refine lp_up (P := fun z j => wp_X0_keptByMirrors_h4 Q z (nI n) (nI k) (nI (kbm n k j)) (nI j)) (a := 0) (n := n) (by omega) ⟨1, ?_⟩ (fun ax _ hax ⟨z, hz⟩ => ⟨z + 1, ?_⟩)
  · unfold wp_X0_keptByMirrors_h4
    exact br_t (nI_le (Nat.le_refl n) (by omega)) h
  · have hs2 := stl_2 n (by omega) ax (by omega) hax
    have hsl := stl_le n ax n
    unfold wp_X0_keptByMirrors_h4
    refine br_f (nI_ge hax (by omega)) ?_
    refine sp_stillBeats hn hax ?_
    refine ⟨by decide, ?_⟩
    intro x12 e12
    rw [pk_sub hsl, show (2 : Int32) = nI 2 from rfl, pk_div (by omega) (by decide) (by decide)] at e12
    subst e12
    have e9 : kbm n k (ax + 1) = kbm n k ax + kmi k (stl n ax n) ((n - stl n ax n) / 2) (min (stl n ax n) k + 1) := rfl
    rw [e9] at hz
    generalize hst : stl n ax n = st at hs2 hsl hz ⊢
    generalize hpr : (n - st) / 2 = pr at hz ⊢
    have hprl : pr ≤ 24 := by omega
    have out : wp_X0_keptByMirrors_j79 (wp_X0_keptByMirrors_h4 Q z) Q (nI n) (nI k) (nI (kbm n k ax + kmi k st pr (min st k + 1))) (nI ax) := by
      unfold wp_X0_keptByMirrors_j79
      intro x1 e1
      rw [nI_1] at e1
      rw [e1]
      exact hz
    refine lp_up (P := fun y j => wp_X0_keptByMirrors_h27 (wp_X0_keptByMirrors_h4 Q z) Q y (nI n) (nI k) (nI (kbm n k ax + kmi k st pr j)) (nI ax) (nI st) (nI pr) (nI j)) (a := 0) (n := min st k + 1) (by omega) ⟨1, ?_⟩ (fun j _ hj ⟨y, hy⟩ => ⟨y + 1, ?_⟩)
    · unfold wp_X0_keptByMirrors_h27
      refine b_lt (by omega) (by omega) (fun _ => out) (fun q => b_lt (by omega) (by omega) (fun _ => out) (fun q2 => ?_))
      omega
    · unfold wp_X0_keptByMirrors_h27
      refine br_f (nI_nlt (by omega) (by omega)) (br_f (nI_nlt (by omega) (by omega)) ?_)
      rw [pk_sub (by omega)]
      refine sp_leftOver (n := 2) (by omega) (by omega) (by omega) ?_
      have step : ∀ (x : Int32), x = nI (kbm n k ax + kmi k st pr (j + 1)) → wp_X0_keptByMirrors_j73 (wp_X0_keptByMirrors_h4 Q z) (wp_X0_keptByMirrors_h27 (wp_X0_keptByMirrors_h4 Q z) Q y) Q (nI n) (nI k) x (nI ax) (nI st) (nI pr) (nI j) := by
        intro x hx
        unfold wp_X0_keptByMirrors_j73
        intro x2 e2
        rw [nI_1] at e2
        rw [hx, e2]
        exact hy
      refine b_ne (b := 0) (by omega) (by omega) (fun q => step _ ?_) (fun q => ?_)
      · rw [kmi, if_neg q, Nat.add_zero]
      · refine sp_choose (by omega) (by omega) ?_
        refine ⟨by decide, ?_⟩
        rw [show (2 : Int32) = nI 2 from rfl, pk_div (by omega) (by decide) (by decide)]
        refine sp_choose (by omega) (by omega) ?_
        intro x9 e9
        refine step x9 ?_
        rw [e9, pk_mul, nI_add, kmi, if_pos q, Nat.add_assoc]
        rfl
theorem sp_turnedOrMirrored {n k : Nat} {Q : Int32 → Prop} (h0 : 0 < n) (hn : n ≤ 24) (hk : k ≤ n) (h : Q (nI ((kbt n k n / n + mir n k) / 2))) : wp_X0_turnedOrMirrored (nI n) (nI k) Q := by
  have hb := kbt_le hn h0 hk
  obtain ⟨e1, e2, e3⟩ := brac_eq n (by omega) k (by omega) h0 hk
  unfold wp_X0_turnedOrMirrored
  refine sp_keptByTurns h0 hn hk ?_
  refine sp_keptByMirrors h0 hn hk ?_
  rw [nI_add, show (2 : Int32) = nI 2 from rfl, pk_mul]
  refine sp_quotient (by omega) (by omega) (by omega) ?_
  rw [e1]
  exact h
theorem sp_mirrored10 {n k : Nat} {Q : Int64 → Prop} (h0 : 0 < n) (hn : n ≤ 24) (hk : k ≤ n) (h : Q (lN (mir n k))) : wp_X10_mirrored (nI n) (nI k) Q := by
  have hm1 := Nat.mod_lt n (show 0 < 2 by omega)
  have hm2 := Nat.mod_lt k (show 0 < 2 by omega)
  unfold wp_X10_mirrored wp_X10_mirrored_j51
  rw [show (2 : Int32) = nI 2 from rfl, show (1 : Int32) = nI 1 from rfl, pk_rem (a := n) (by omega) (by decide) (by decide), pk_rem (a := k) (by omega) (by decide) (by decide), pk_div (a := n) (by omega) (by decide) (by decide), pk_div (a := k) (by omega) (by decide) (by decide), pk_sub h0, pk_div (a := n - 1) (by omega) (by decide) (by decide)]
  unfold mir at h
  refine ⟨by decide, ?_⟩
  refine b_ne (by omega) (by omega) (fun q => ⟨by decide, ?_⟩) (fun q => ⟨by decide, by decide, ?_⟩)
  · rw [if_neg q] at h
    refine b_ne (by omega) (by omega) (fun q2 => ⟨by decide, by decide, ?_⟩) (fun q2 => ⟨by decide, by decide, ?_⟩)
    · rw [if_neg q2] at h
      exact sp_choose10 (by omega) (by omega) h
    · rw [if_pos q2] at h
      rw [pk_sub (by omega)]
      exact sp_choose10 (by omega) (by omega) h
  · rw [if_pos q] at h
    exact sp_choose10 (by omega) (by omega) h
