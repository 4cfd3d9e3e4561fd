/-! ===== what is heard: moves, listen ===== -/
theorem bh_tb {n s i : Nat} (h0 : 0 < n) (hi : i < n) : (bh n s).testBit i = s.testBit ((n - i) % n) := by
  have hm : (n - i) % n < n := Nat.mod_lt _ h0
  have e1 : (n - i) % n = if i = 0 then 0 else n - i := by
    by_cases q : i = 0
    · subst q; rw [if_pos rfl, Nat.sub_zero, Nat.mod_self]
    · rw [if_neg q, Nat.mod_eq_of_lt (by omega)]
  rw [Bool.eq_iff_iff]
  unfold bh
  rw [orf_tb]
  constructor
  · rintro ⟨k, hk, h1, h2⟩
    have e2 : (n - k) % n = if k = 0 then 0 else n - k := by
      by_cases q : k = 0
      · subst q; rw [if_pos rfl, Nat.sub_zero, Nat.mod_self]
      · rw [if_neg q, Nat.mod_eq_of_lt (by omega)]
    rw [e1]
    rw [e2] at h2
    have : k = if i = 0 then 0 else n - i := by
      split at h2 <;> split <;> omega
    rw [← this]
    exact h1
  · intro h
    refine ⟨(n - i) % n, hm, h, ?_⟩
    show (n - (n - i) % n) % n = i
    rw [e1]
    by_cases q : i = 0
    · subst q; rw [if_pos rfl, Nat.sub_zero, Nat.mod_self]
    · rw [if_neg q, show n - (n - i) = i by omega, Nat.mod_eq_of_lt hi]
def ts (n s b : Nat) : Nat := mv n (bh n s) b
theorem ts_lt (n s b : Nat) : ts n s b < 2 ^ n := mv_lt _ _ _
theorem ts_tb {n s b t : Nat} (h0 : 0 < n) (hs : s < 2 ^ n) (hb : b < n) (ht : t < n) : (ts n s b).testBit t = (mv n s t).testBit b := by
  unfold ts
  rw [mv_tb (bh_lt h0) hb ht, mv_tb hs ht hb, bh_tb h0 (Nat.mod_lt _ h0)]
  congr 1
  rw [mod2 (show t + n - b < 2 * n by omega), mod2 (show b + n - t < 2 * n by omega)]
  split
  · split
    · rw [mod2 (by omega)]; split <;> omega
    · rw [mod2 (by omega)]; split <;> omega
  · split
    · rw [mod2 (by omega)]; split <;> omega
    · rw [mod2 (by omega)]; split <;> omega
theorem sp_tts {n s b : Nat} {Q : Int32 → Prop} (h0 : 0 < n) (hn : n ≤ 24) (hs : s < 2 ^ n) (hb : b < n) (h : Q (nI (ts n s b))) : wp_X6_turnsThatStrike (nI n) (nI s) (nI b) Q := by
  unfold wp_X6_turnsThatStrike
  refine sp_mirrored h0 hn hs (sp_moved h0 hn (bh_lt h0) (by omega) ?_)
  rw [Nat.mod_eq_of_lt hb]
  exact h
/-- a set gathered by a test -/
def fs (p : Nat → Bool) : Nat → Nat
  | 0 => 0
  | j + 1 => if p j then fs p j ||| 2 ^ j else fs p j
theorem fs_lt (p : Nat → Bool) : ∀ j, fs p j < 2 ^ j
  | 0 => by show 0 < 1; omega
  | j + 1 => by
    have h := fs_lt p j
    have h2 : fs p j < 2 ^ (j + 1) := Nat.lt_of_lt_of_le h (Nat.pow_le_pow_right (by omega) (by omega))
    show (if p j then fs p j ||| 2 ^ j else fs p j) < 2 ^ (j + 1)
    split
    · exact Nat.or_lt_two_pow h2 (bit_lt (by omega))
    · exact h2
theorem fs_tb (p : Nat → Bool) (i : Nat) : ∀ j, (fs p j).testBit i = (decide (i < j) && p i)
  | 0 => by show (0 : Nat).testBit i = _; simp
  | j + 1 => by
    have h := fs_tb p i j
    have e : fs p (j + 1) = if p j then fs p j ||| 2 ^ j else fs p j := rfl
    rw [e]
    by_cases q : i = j
    · subst q
      cases hp : p i
      · simp [h, hp]
      · simp [h, hp, Nat.testBit_or, Nat.testBit_two_pow]
    · have e2 : decide (i < j + 1) = decide (i < j) := by
        rw [Bool.eq_iff_iff]; simp; omega
      cases hp : p j
      · simp [h, e2]
      · simp [h, e2, Nat.testBit_or, Nat.testBit_two_pow, Ne.symm q]
def fit (n s : Nat) (hb : Nat → Nat) (hw : Nat → Bool) (t : Nat) : Nat → Bool
  | 0 => true
  | k + 1 => fit n s hb hw t k && (decide (hb k < n) && ((mv n s t).testBit (hb k) == hw k))
theorem fit_no {n s : Nat} {hb : Nat → Nat} {hw : Nat → Bool} {t i : Nat} (hi : n ≤ hb i) : ∀ k, i < k → fit n s hb hw t k = false
  | 0, h => by omega
  | k + 1, h => by
    show (fit n s hb hw t k && (decide (hb k < n) && ((mv n s t).testBit (hb k) == hw k))) = false
    rcases Nat.lt_or_ge i k with q | q
    · rw [fit_no hi k q, Bool.false_and]
    · have e : i = k := by omega
      subst e
      have : decide (hb i < n) = false := by simp; omega
      rw [this, Bool.false_and, Bool.and_false]
/-- the turns that fit -/
def fset (n s : Nat) (hb : Nat → Nat) (hw : Nat → Bool) (c : Nat) : Nat := fs (fun t => fit n s hb hw t c) n
theorem fset_lt (n s : Nat) (hb : Nat → Nat) (hw : Nat → Bool) (c : Nat) : fset n s hb hw c < 2 ^ n := fs_lt _ _
def Hd (c : Nat) (hb : Nat → Nat) (hw : Nat → Bool) (xh xs : Nat → Int32) : Prop := ∀ i, i < c → hb i < 24 ∧ xh i = nI (hb i) ∧ xs i = nI (hw i).toNat
theorem er_hd {xc mc : Int32} {xh xs mh ms : Nat → Int32} (h : Er xc xh xs mc mh ms) : ∃ (c : Nat) (hb : Nat → Nat) (hw : Nat → Bool), c ≤ 8 ∧ xc = nI c ∧ mc = nI c ∧ Hd c hb hw xh xs ∧ Hd c hb hw mh ms := by
  obtain ⟨c, hc, e1, e2, hi⟩ := h
  have key : ∀ i, i < c → (xh i).toNatClampNeg < 24 ∧ xh i = nI (xh i).toNatClampNeg ∧ mh i = nI (xh i).toNatClampNeg ∧ xs i = nI (decide (xs i = 1)).toNat ∧ ms i = nI (decide (xs i = 1)).toNat := by
    intro i h
    obtain ⟨b, w, h1, h2, h3, h4, h5⟩ := hi i h
    have e : (xh i).toNatClampNeg = b := by rw [h2]; exact J_cl (by omega)
    have ew : decide (xs i = 1) = w := by rw [h4]; cases w <;> decide
    rw [e, ew]
    exact ⟨h1, h2, h3, h4, h5⟩
  exact ⟨c, fun i => (xh i).toNatClampNeg, fun i => decide (xs i = 1), hc, e1, e2, fun i h => ⟨(key i h).1, (key i h).2.1, (key i h).2.2.2.1⟩, fun i h => ⟨(key i h).1, (key i h).2.2.1, (key i h).2.2.2.2⟩⟩
theorem fset_step {n s c : Nat} {hb : Nat → Nat} {hw : Nat → Bool} (h0 : 0 < n) (hn : n ≤ 24) (hs : s < 2 ^ n) (hc : hb c < n) : fset n s hb hw (c + 1) = fset n s hb hw c &&& (if hw c then ts n s (hb c) else 2 ^ 32 - 1 - ts n s (hb c)) := by
  have hp : 2 ^ n ≤ 2 ^ 24 := Nat.pow_le_pow_right (by omega) hn
  have hl := fset_lt n s hb hw c
  have ht := ts_lt n s (hb c)
  refine set_ext (fset_lt _ _ _ _ _) (Nat.lt_of_le_of_lt Nat.and_le_left hl) (fun t htn => ?_)
  rw [Nat.testBit_and]
  unfold fset
  rw [fs_tb, fs_tb]
  have e1 : fit n s hb hw t (c + 1) = (fit n s hb hw t c && (decide (hb c < n) && ((mv n s t).testBit (hb c) == hw c))) := rfl
  have e2 : decide (t < n) = true := decide_eq_true htn
  have e3 : decide (hb c < n) = true := decide_eq_true hc
  rw [e1, e2, e3, ← ts_tb h0 hs hc htn]
  cases hw c
  · rw [if_neg (by decide), show 2 ^ 32 - 1 - ts n s (hb c) = 2 ^ 32 - (ts n s (hb c) + 1) by omega, Nat.testBit_two_pow_sub_succ (by omega), decide_eq_true (show t < 32 by omega)]
    cases (ts n s (hb c)).testBit t <;> simp
  · rw [if_pos rfl]
    cases (ts n s (hb c)).testBit t <;> simp
theorem fset_no {n s c i : Nat} {hb : Nat → Nat} {hw : Nat → Bool} (hi : n ≤ hb i) (hc : i < c) : fset n s hb hw c = 0 := by
  refine set_ext (fset_lt _ _ _ _ _) (Nat.two_pow_pos n) (fun t htn => ?_)
  unfold fset
  rw [fs_tb, fit_no hi c hc]
  simp
theorem fset_0 {n s : Nat} {hb : Nat → Nat} {hw : Nat → Bool} : fset n s hb hw 0 = 2 ^ n - 1 := by
  refine set_ext (fset_lt _ _ _ _ _) (by have := Nat.two_pow_pos n; omega) (fun t htn => ?_)
  unfold fset
  rw [fs_tb, Nat.testBit_two_pow_sub_one]
  show (decide (t < n) && true) = _
  rw [Bool.and_true]
theorem sp_fitting {n s c : Nat} {hb : Nat → Nat} {hw : Nat → Bool} {xh xs : Nat → Int32} {Q : Int32 → Prop} (h0 : 0 < n) (hn : n ≤ 24) (hs : s < 2 ^ n) (hc : c ≤ 8) (hH : Hd c hb hw xh xs) (h : Q (nI (fset n s hb hw c))) : wp_X1_fitting (nI c) xh xs (nI n) (nI s) Q := by
  have hp : 2 ^ n ≤ 2 ^ 24 := Nat.pow_le_pow_right (by omega) hn
  unfold wp_X1_fitting
  refine sp_full (by omega) ?_
  rw [← fset_0 (n := n) (s := s) (hb := hb) (hw := hw)]
  refine lp_up (P := fun k j => wp_X1_fitting_h8 (nI c) xh xs Q k (nI n) (nI s) (nI (fset n s hb hw j)) (nI j)) (a := 0) (n := c) (by omega) ⟨1, ?_⟩ (fun j _ hj ⟨k, hk⟩ => ⟨k + 1, ?_⟩)
  · unfold wp_X1_fitting_h8 wp_X1_fitting_j79
    exact br_t (nI_le (Nat.le_refl _) (by omega)) h
  · unfold wp_X1_fitting_h8
    have hv : vp_in (nI j) 8 := vp_in_nI (by omega) (by omega)
    obtain ⟨k1, k2, k3⟩ := hH j hj
    refine br_f (nI_ge hj (by omega)) (br_f (nI_ge (a := j) (b := 8) (by omega) (by omega)) ⟨hv, ?_⟩)
    rw [J_cl (by omega), k2, k3]
    refine b_lt (by omega) (by omega) (fun q => ⟨hv, ?_⟩) (fun q => ?_)
    · refine sp_tts h0 hn hs q ⟨hv, ?_⟩
      have hst := fset_step (hw := hw) h0 hn hs q
      have htl := ts_lt n s (hb j)
      unfold wp_X1_fitting_j71
      cases hwj : hw j
      · rw [hwj, if_neg (by decide)] at hst
        refine ⟨fun _ => ?_, fun q2 => absurd rfl q2⟩
        rw [J_not (by omega), fa_and, ← hst, nI_1]
        rintro x1 rfl
        rintro x2 rfl
        exact hk
      · rw [hwj, if_pos rfl] at hst
        refine ⟨fun q2 => absurd q2 (by decide), fun _ => ?_⟩
        rw [fa_and, ← hst, nI_1]
        rintro x1 rfl
        rintro x2 rfl
        exact hk
    · rw [fset_no q hj] at h
      exact h
theorem sp_fits {n s c t : Nat} {hb : Nat → Nat} {hw : Nat → Bool} {xh xs : Nat → Int32} {Q : Int32 → Prop} (h0 : 0 < n) (hn : n ≤ 24) (hs : s < 2 ^ n) (hc : c ≤ 8) (ht : t < n) (hH : Hd c hb hw xh xs) (h : Q (nI (fit n s hb hw t c).toNat)) : wp_X10_fitsMove (nI n) (nI s) (nI c) xh xs (nI t) Q := by
  have hp : 2 ^ n ≤ 2 ^ 24 := Nat.pow_le_pow_right (by omega) hn
  have hml := mv_lt n s t
  unfold wp_X10_fitsMove
  refine sp_moved10 h0 hn hs (by omega) ?_
  rw [Nat.mod_eq_of_lt ht]
  refine lp_up (P := fun k j => wp_X10_fitsMove_h18 (nI n) (nI s) (nI c) xh xs Q k (nI (mv n s t)) (nI (fit n s hb hw t j).toNat) (nI j)) (a := 0) (n := c) (by omega) ⟨1, ?_⟩ (fun j _ hj ⟨k, hk⟩ => ⟨k + 1, ?_⟩)
  · unfold wp_X10_fitsMove_h18
    refine br_t (nI_le (Nat.le_refl _) (by omega)) ⟨?_, h⟩
    cases fit n s hb hw t c
    · exact isB0
    · exact isB1
  · unfold wp_X10_fitsMove_h18
    have hv : vp_in (nI j) 8 := vp_in_nI (by omega) (by omega)
    obtain ⟨k1, k2, k3⟩ := hH j hj
    have e1 : fit n s hb hw t (j + 1) = (fit n s hb hw t j && (decide (hb j < n) && ((mv n s t).testBit (hb j) == hw j))) := rfl
    refine br_f (nI_ge hj (by omega)) ?_
    rw [J_cl (by omega), k2, k3]
    have step : ∀ y : Int32, y = nI (fit n s hb hw t (j + 1)).toNat → wp_X10_fitsMove_j71 (nI n) (nI s) (nI c) xh xs (wp_X10_fitsMove_h18 (nI n) (nI s) (nI c) xh xs Q k) Q (nI (mv n s t)) (nI j) y := by
      intro y hy
      unfold wp_X10_fitsMove_j71
      rintro x1 rfl
      rw [hy, nI_1]
      exact hk
    unfold wp_X10_fitsMove_j70
    cases hf : fit n s hb hw t j
    · rw [hf, Bool.false_and] at e1
      exact ⟨fun _ => step _ (by rw [e1]; rfl), fun q => absurd rfl q⟩
    · rw [hf, Bool.true_and] at e1
      refine ⟨fun q => absurd q (by decide), fun _ => ⟨hv, ?_⟩⟩
      by_cases q : hb j < n
      · rw [decide_eq_true q, Bool.true_and] at e1
        refine sp_isBeat10T q (by omega) ⟨fun q => absurd q (by decide), fun _ => ⟨hv, ?_⟩⟩
        refine sp_has (by omega) (by omega) ⟨hv, ?_⟩
        cases hx : (mv n s t).testBit (hb j) <;> cases hy : hw j
        · rw [hx, hy] at e1
          exact ⟨fun q => absurd rfl q, fun _ => step _ (by rw [e1]; rfl)⟩
        · rw [hx, hy] at e1
          exact ⟨fun _ => step _ (by rw [e1]; rfl), fun q => absurd q (by decide)⟩
        · rw [hx, hy] at e1
          exact ⟨fun _ => step _ (by rw [e1]; rfl), fun q => absurd q (by decide)⟩
        · rw [hx, hy] at e1
          exact ⟨fun q => absurd rfl q, fun _ => step _ (by rw [e1]; rfl)⟩
      · rw [decide_eq_false q, Bool.false_and] at e1
        refine sp_isBeat10F h0 (by omega) (Or.inr (nI_le (by omega) (by omega))) ⟨fun _ => step _ (by rw [e1]; rfl), fun q => absurd rfl q⟩
theorem sp_moves10 {n s c : Nat} {hb : Nat → Nat} {hw : Nat → Bool} {xh xs : Nat → Int32} {Q : Int32 → Prop} (h0 : 0 < n) (hn : n ≤ 24) (hs : s < 2 ^ n) (hc : c ≤ 8) (hH : Hd c hb hw xh xs) (h : Q (nI (fset n s hb hw c))) : wp_X10_moves (nI n) (nI s) (nI c) xh xs Q := by
  unfold wp_X10_moves
  refine lp_up (P := fun k j => wp_X10_moves_h4 (nI n) (nI s) (nI c) xh xs Q k (nI (fs (fun t => fit n s hb hw t c) j)) (nI j)) (a := 0) (n := n) (by omega) ⟨1, ?_⟩ (fun j _ hj ⟨k, hk⟩ => ⟨k + 1, ?_⟩)
  · unfold wp_X10_moves_h4
    exact br_t (nI_le (Nat.le_refl _) (by omega)) h
  · unfold wp_X10_moves_h4
    refine br_f (nI_ge hj (by omega)) ?_
    refine sp_fits h0 hn hs hc hj hH ?_
    have e : fs (fun t => fit n s hb hw t c) (j + 1) = if fit n s hb hw j c then fs (fun t => fit n s hb hw t c) j ||| 2 ^ j else fs (fun t => fit n s hb hw t c) j := rfl
    unfold wp_X10_moves_j28
    cases hf : fit n s hb hw j c
    · rw [hf, if_neg (by decide)] at e
      refine ⟨fun _ => ?_, fun q => absurd rfl q⟩
      rw [show (0 : Int32) = nI 0 from rfl, fa_or, Nat.or_zero, nI_1]
      rintro x1 rfl
      rintro x2 rfl
      rw [e] at hk
      exact hk
    · rw [hf, if_pos rfl] at e
      refine ⟨fun q => absurd q (by decide), fun _ => ?_⟩
      rw [J_shl1 (by omega), fa_or, nI_1]
      rintro x1 rfl
      rintro x2 rfl
      rw [e] at hk
      exact hk
theorem cs_moves {xb xr mb mr xc mc : Int32} {xh xs mh ms : Nat → Int32} {K : Prop} (hR : Rh xb xr mb mr) (hE : Er xc xh xs mc mh ms) (hK : K) : wp_X9_moves xb xr xc xh xs fun r => wp_X10_moves mb mr mc mh ms fun r2 => (r = r2 → K) ∧ (¬ r = r2 → False) := by
  obtain ⟨n, s, h0, hn, hs, rfl, rfl, rfl, rfl⟩ := hR
  obtain ⟨c, hb, hw, hc, rfl, rfl, hx, hm⟩ := er_hd hE
  unfold wp_X9_moves
  exact sp_fitting h0 hn hs hc hx (sp_moves10 h0 hn hs hc hm (eqk rfl hK))
