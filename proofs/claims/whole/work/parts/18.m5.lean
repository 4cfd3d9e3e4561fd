/-! ===== the value of a rhythm; the least of all its turns ===== -/
theorem mod2 {n x : Nat} (hx : x < 2 * n) : x % n = if x < n then x else x - n := by
  split
  · exact Nat.mod_eq_of_lt (by assumption)
  · rw [Nat.mod_eq_sub_mod (by omega), Nat.mod_eq_of_lt (by omega)]
def vlf (s : Nat) : Nat → Nat
  | 0 => 0
  | j + 1 => 2 * vlf s j + (s.testBit j).toNat
def vl (n s : Nat) : Nat := vlf s n
theorem vlf_lt (s : Nat) : ∀ j, vlf s j < 2 ^ j
  | 0 => by simp [vlf]
  | j + 1 => by
    have ih := vlf_lt s j
    have hb : (s.testBit j).toNat ≤ 1 := by cases s.testBit j <;> decide
    unfold vlf
    rw [Nat.pow_succ]
    omega
theorem vl_lt (n s : Nat) : vl n s < 2 ^ n := vlf_lt s n
theorem vlf_tb (s : Nat) : ∀ (n i : Nat), i < n → (vlf s n).testBit i = s.testBit (n - 1 - i)
  | 0, i, h => absurd h (Nat.not_lt_zero i)
  | n + 1, i, h => by
    have hb : (s.testBit n).toNat < 2 := by cases s.testBit n <;> decide
    unfold vlf
    cases i with
    | zero =>
      rw [Nat.testBit_zero, show n + 1 - 1 - 0 = n by omega]
      cases s.testBit n <;> simp <;> omega
    | succ i =>
      rw [Nat.testBit_succ, show (2 * vlf s n + (s.testBit n).toNat) / 2 = vlf s n by omega, vlf_tb s n i (by omega)]
      congr 1
      omega
theorem vl_tb {n s i : Nat} (hi : i < n) : (vl n s).testBit i = s.testBit (n - 1 - i) := vlf_tb s n i hi
theorem vl_inj {n a b : Nat} (ha : a < 2 ^ n) (hb : b < 2 ^ n) (h : vl n a = vl n b) : a = b := by
  refine set_ext ha hb (fun i hi => ?_)
  have h1 := vl_tb (n := n) (s := a) (i := n - 1 - i) (by omega)
  have h2 := vl_tb (n := n) (s := b) (i := n - 1 - i) (by omega)
  rw [show n - 1 - (n - 1 - i) = i by omega] at h1 h2
  rw [← h1, ← h2, h]
theorem vl_mv {n s t : Nat} (hs : s < 2 ^ n) (ht : t < n) : vl n (mv n s t) = mv n (vl n s) ((n - t) % n) := by
  refine set_ext (vl_lt _ _) (mv_lt _ _ _) (fun i hi => ?_)
  have hm : (n - t) % n < n := Nat.mod_lt _ (by omega)
  rw [vl_tb hi, mv_tb hs ht (by omega), mv_tb (vl_lt _ _) hm hi, vl_tb (Nat.mod_lt _ (by omega))]
  congr 1
  have e : (n - t) % n = if t = 0 then 0 else n - t := by
    by_cases h : t = 0
    · rw [if_pos h, h, Nat.sub_zero, Nat.mod_self]
    · rw [if_neg h, Nat.mod_eq_of_lt (by omega)]
  rw [e]
  rw [mod2 (n := n) (x := n - 1 - i + n - t) (by omega)]
  by_cases h : t = 0
  · rw [if_pos h, mod2 (by omega)]
    split <;> split <;> omega
  · rw [if_neg h, mod2 (by omega)]
    split <;> split <;> omega
theorem sp_value {n s : Nat} {Q : Int32 → Prop} (hn : n ≤ 24) (hs : s < 2 ^ n) (h : Q (nI (vl n s))) : wp_X4_value (nI n) (nI s) Q := by
  have hp : 2 ^ n ≤ 2 ^ 24 := Nat.pow_le_pow_right (by omega) hn
  unfold wp_X4_value
  refine lp_up (P := fun k j => wp_X4_value_h4 Q k (nI n) (nI s) (nI (vlf s j)) (nI j)) (a := 0) (n := n) (by omega) ⟨1, ?_⟩ (fun j _ hj ⟨k, hk⟩ => ⟨k + 1, ?_⟩)
  · unfold wp_X4_value_h4
    exact br_t (nI_le (Nat.le_refl n) (by omega)) h
  · unfold wp_X4_value_h4
    refine br_f (nI_ge hj (by omega)) ?_
    refine sp_bit (by omega) (by omega) ?_
    intro x3 e3 x4 e4
    rw [show (2 : Int32) = nI 2 from rfl, pk_mul, nI_add] at e3
    rw [nI_1] at e4
    rw [e3, e4]
    exact hk
theorem sp_valueOf {n s : Nat} {Q : Int32 → Prop} (hn : n ≤ 24) (hs : s < 2 ^ n) (h : Q (nI (vl n s))) : wp_X10_valueOf (nI s) (nI n) Q := by
  have hp : 2 ^ n ≤ 2 ^ 24 := Nat.pow_le_pow_right (by omega) hn
  unfold wp_X10_valueOf
  refine lp_up (P := fun k j => wp_X10_valueOf_h4 Q k (nI s) (nI n) (nI (vlf s j)) (nI j)) (a := 0) (n := n) (by omega) ⟨1, ?_⟩ (fun j _ hj ⟨k, hk⟩ => ⟨k + 1, ?_⟩)
  · unfold wp_X10_valueOf_h4
    exact br_t (nI_le (Nat.le_refl n) (by omega)) h
  · unfold wp_X10_valueOf_h4
    refine br_f (nI_ge hj (by omega)) ?_
    refine sp_has (by omega) (by omega) ?_
    have step : ∀ (y : Nat), y = (s.testBit j).toNat → wp_X10_valueOf_j25 (wp_X10_valueOf_h4 Q k) Q (nI s) (nI n) (nI j) (2 * nI (vlf s j)) (nI y) := by
      intro y hy
      unfold wp_X10_valueOf_j25
      intro x1 e1 x2 e2
      rw [show (2 : Int32) = nI 2 from rfl, pk_mul, nI_add, hy] at e1
      rw [nI_1] at e2
      rw [e1, e2]
      exact hk
    cases hb : s.testBit j
    · exact ⟨fun _ => step 0 (by rw [hb]; rfl), fun q => absurd rfl q⟩
    · exact ⟨fun q => absurd q (by decide), fun _ => step 1 (by rw [hb]; rfl)⟩
/-- the best so far: where, how much -/
def bst (w : Nat → Nat) : Nat → Nat × Nat
  | 0 => (0, w 0)
  | j + 1 => if w (j + 1) < (bst w j).2 then (j + 1, w (j + 1)) else bst w j
theorem bst_at (w : Nat → Nat) : ∀ j, w (bst w j).1 = (bst w j).2 ∧ (bst w j).1 ≤ j
  | 0 => ⟨rfl, Nat.le_refl 0⟩
  | j + 1 => by
    have ih := bst_at w j
    unfold bst
    split
    · exact ⟨rfl, Nat.le_refl _⟩
    · exact ⟨ih.1, by omega⟩
theorem bst_le (w : Nat → Nat) : ∀ j i, i ≤ j → (bst w j).2 ≤ w i
  | 0, i, h => by rw [show i = 0 by omega]; exact Nat.le_refl _
  | j + 1, i, h => by
    have ih := bst_le w j
    unfold bst
    split
    · by_cases e : i = j + 1
      · rw [e]; exact Nat.le_refl _
      · have := ih i (by omega)
        show w (j + 1) ≤ w i
        omega
    · by_cases e : i = j + 1
      · rw [e]; omega
      · exact ih i (by omega)
def wv (n s t : Nat) : Nat := vl n (mv n s t)
/-- the necklace, and the least turn by which it is got -/
def nk (n s : Nat) : Nat := (bst (wv n s) (n - 1)).2
def nt (n s : Nat) : Nat := (bst (wv n s) (n - 1)).1
theorem wv_lt (n s t : Nat) : wv n s t < 2 ^ n := vl_lt _ _
theorem nt_lt {n s : Nat} (h0 : 0 < n) : nt n s < n := by
  have := (bst_at (wv n s) (n - 1)).2
  unfold nt
  omega
theorem nk_at (n s : Nat) : wv n s (nt n s) = nk n s := (bst_at (wv n s) (n - 1)).1
theorem nk_le {n s t : Nat} (ht : t < n) : nk n s ≤ wv n s t := bst_le (wv n s) (n - 1) t (by omega)
theorem nk_lt {n s : Nat} : nk n s < 2 ^ n := by rw [← nk_at]; exact wv_lt _ _ _
theorem sp_leastTurn {n s : Nat} {Q : Int32 → Prop} (h0 : 0 < n) (hn : n ≤ 24) (hs : s < 2 ^ n) (h : Q (nI (nt n s))) : wp_X4_leastTurn (nI n) (nI s) Q := by
  have hp : 2 ^ n ≤ 2 ^ 24 := Nat.pow_le_pow_right (by omega) hn
  unfold wp_X4_leastTurn
  refine sp_value hn hs ?_
  have hb : ∀ j, (bst (wv n s) j).2 < 2 ^ n := fun j => by rw [← (bst_at (wv n s) j).1]; exact wv_lt _ _ _
  have e0 : vl n s = wv n s 0 := by unfold wv; rw [mv_0 hs h0]
  have key := lp_up (P := fun k j => wp_X4_leastTurn_h14 Q k (nI n) (nI (vl n s)) (nI (bst (wv n s) (j - 1)).1) (nI (bst (wv n s) (j - 1)).2) (nI j)) (a := 1) (n := n) (by omega) ⟨1, ?_⟩ (fun j h1 hj ⟨k, hk⟩ => ⟨k + 1, ?_⟩)
  · obtain ⟨k, hk⟩ := key
    refine ⟨k, ?_⟩
    have e1 : nI (vl n s) = nI (bst (wv n s) 0).2 := by rw [e0]; rfl
    have hk2 : wp_X4_leastTurn_h14 Q k (nI n) (nI (vl n s)) 0 (nI (bst (wv n s) 0).2) 1 := hk
    rwa [← e1] at hk2
  · unfold wp_X4_leastTurn_h14
    exact br_t (nI_le (Nat.le_refl n) (by omega)) h
  · unfold wp_X4_leastTurn_h14
    refine br_f (nI_ge hj (by omega)) ?_
    refine sp_valueTurned h0 hn (vl_lt _ _) (by omega) ?_
    rw [← vl_mv hs hj]
    have hw := wv_lt n s j
    have hbb := hb (j - 1)
    have ej : j = (j - 1) + 1 := by omega
    have step : ∀ (a b : Nat), (a, b) = bst (wv n s) j → wp_X4_leastTurn_j43 (wp_X4_leastTurn_h14 Q k) Q (nI n) (nI (vl n s)) (nI a) (nI b) (nI j) := by
      intro a b hab
      unfold wp_X4_leastTurn_j43
      intro x1 e1
      rw [nI_1] at e1
      have hk2 : wp_X4_leastTurn_h14 Q k (nI n) (nI (vl n s)) (nI (bst (wv n s) j).1) (nI (bst (wv n s) j).2) (nI (j + 1)) := hk
      rw [← hab] at hk2
      rw [e1]
      exact hk2
    have e9 : bst (wv n s) j = if wv n s j < (bst (wv n s) (j - 1)).2 then (j, wv n s j) else bst (wv n s) (j - 1) := by
      rw [ej]; rfl
    refine b_le (a := (bst (wv n s) (j - 1)).2) (b := wv n s j) (by omega) (by omega) (fun q => step _ _ ?_) (fun q => step _ _ ?_)
    · rw [e9, if_neg (by omega)]
    · rw [e9, if_pos q]; rfl
theorem sp_least {n s : Nat} {Q : Int32 → Prop} (h0 : 0 < n) (hn : n ≤ 24) (hs : s < 2 ^ n) (h : Q (nI (nk n s))) : wp_X4_least (nI n) (nI s) Q := by
  unfold wp_X4_least
  refine sp_value hn hs ?_
  refine sp_leastTurn h0 hn hs ?_
  refine sp_valueTurned h0 hn (vl_lt _ _) (Nat.le_of_lt (nt_lt h0)) ?_
  rw [← vl_mv hs (nt_lt h0)]
  have e : vl n (mv n s (nt n s)) = nk n s := nk_at n s
  rw [e]
  exact h
/-- two rhythms have one necklace if one is the other, moved -/
theorem nk_iff {n a b : Nat} (h0 : 0 < n) (ha : a < 2 ^ n) (hb : b < 2 ^ n) : nk n a = nk n b ↔ ∃ t, t < n ∧ mv n a t = b := by
  constructor
  · intro h
    rw [← nk_at, ← nk_at] at h
    have e := vl_inj (mv_lt _ _ _) (mv_lt _ _ _) h
    have t1 := nt_lt (s := a) h0
    have t2 := nt_lt (s := b) h0
    have hr : (n - nt n b) % n < n := Nat.mod_lt _ h0
    refine ⟨(nt n a + (n - nt n b) % n) % n, Nat.mod_lt _ h0, ?_⟩
    rw [← mv_mv ha t1 hr, e, mv_back hb t2]
  · rintro ⟨t, ht, rfl⟩
    have le1 : ∀ {x y u : Nat}, x < 2 ^ n → u < n → mv n x u = y → nk n x ≤ nk n y := by
      intro x y u hx hu hy
      rw [← nk_at n y, ← hy]
      unfold wv
      rw [mv_mv hx hu (nt_lt h0)]
      exact nk_le (Nat.mod_lt _ h0)
    exact Nat.le_antisymm (le1 ha ht rfl) (le1 (u := (n - t) % n) (mv_lt _ _ _) (Nat.mod_lt _ h0) (mv_back ha ht))
/-- the reference's test: is one the other, moved -/
theorem sp_isMoved {n a b : Nat} {Q : Int32 → Prop} (h0 : 0 < n) (hn : n ≤ 24) (ha : a < 2 ^ n) (hb : b < 2 ^ n) (h : Q (if nk n a = nk n b then 1 else 0)) : wp_X10_isMoved (nI a) (nI b) (nI n) Q := by
  have hp : 2 ^ n ≤ 2 ^ 24 := Nat.pow_le_pow_right (by omega) hn
  unfold wp_X10_isMoved
  -- the first turn that fits, or n
  obtain ⟨T, hT⟩ : ∃ T, T = fa_first (fun t => decide (mv n a t = b)) n := ⟨_, rfl⟩
  have hTle : T ≤ n := by rw [hT]; exact fa_first_le _ n
  have hno : ∀ t, t < T → mv n a t ≠ b := fun t ht => by
    have h2 := fa_first_no (fun t => decide (mv n a t = b)) n t (by rw [← hT]; exact ht)
    simpa using h2
  have hyes : T < n → mv n a T = b := fun ht => by
    have h2 := fa_first_yes (fun t => decide (mv n a t = b)) n (by rw [← hT]; exact ht)
    rw [← hT] at h2
    simpa using h2
  have hiff : nk n a = nk n b ↔ T < n := by
    rw [nk_iff h0 ha hb]
    constructor
    · rintro ⟨t, ht, he⟩
      rcases Nat.lt_or_ge T n with q | q
      · exact q
      · exact absurd he (hno t (by omega))
    · intro q
      exact ⟨T, q, hyes q⟩
  have fin : ∀ (v : Int32), v = (if nk n a = nk n b then 1 else 0) → wp_X10_isMoved_j38 Q v := by
    intro v hv
    unfold wp_X10_isMoved_j38
    rw [hv]
    refine ⟨?_, h⟩
    split
    · exact isB1
    · exact isB0
  refine lp_up (P := fun k j => wp_X10_isMoved_h5 Q k (nI a) (nI b) (nI n) 0 (nI j)) (a := 0) (n := T) (by omega) ?_ (fun j _ hj ⟨k, hk⟩ => ⟨k + 1, ?_⟩)
  · by_cases hc : T < n
    · refine ⟨2, ?_⟩
      unfold wp_X10_isMoved_h5
      refine br_f (nI_ge hc (by omega)) ⟨fun q => absurd rfl q, fun _ => ?_⟩
      refine sp_moved10 h0 hn ha (by omega) ?_
      rw [Nat.mod_eq_of_lt hc, hyes hc]
      refine ⟨fun q => absurd rfl q, fun _ => ?_⟩
      unfold wp_X10_isMoved_j31
      intro x1 e1
      rw [nI_1] at e1
      subst e1
      unfold wp_X10_isMoved_h5
      refine b_le (by omega) (by omega) (fun _ => fin 1 (by rw [if_pos (hiff.mpr hc)])) (fun q => ⟨fun _ => fin 1 (by rw [if_pos (hiff.mpr hc)]), fun q => absurd q (by decide)⟩)
    · have e : T = n := by omega
      refine ⟨1, ?_⟩
      unfold wp_X10_isMoved_h5
      rw [e]
      exact br_t (nI_le (Nat.le_refl n) (by omega)) (fin 0 (by rw [if_neg (fun q => hc (hiff.mp q))]))
  · unfold wp_X10_isMoved_h5
    refine br_f (nI_ge (by omega) (by omega)) ⟨fun q => absurd rfl q, fun _ => ?_⟩
    refine sp_moved10 h0 hn ha (by omega) ?_
    have hm := mv_lt n a (j % n)
    refine b_ne (by omega) (by omega) (fun _ => ?_) (fun q => ?_)
    · unfold wp_X10_isMoved_j31
      intro x e
      rw [nI_1] at e
      rw [e]
      exact hk
    · rw [Nat.mod_eq_of_lt (by omega)] at q
      exact absurd q (hno j hj)
