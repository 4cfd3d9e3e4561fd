/-! ===== draws ===== -/
def lcg (d : Nat) : Nat := (d * 1103515245 + 12345) % 2147483648
theorem lcg_lt (d : Nat) : lcg d < 2 ^ 31 := Nat.mod_lt _ (by omega)
theorem J_lcg {d : Nat} (hd : d < 2 ^ 31) : ((((nI d).toInt64 * 1103515245 + 12345) - ((nI d).toInt64 * 1103515245 + 12345) / 2147483648 * 2147483648 : Int64).toInt32) = nI (lcg d) := by
  rw [J_l0 hd, show (1103515245 : Int64) = lN 1103515245 from rfl, show (12345 : Int64) = lN 12345 from rfl, show (2147483648 : Int64) = lN 2147483648 from rfl, lN_mul, lN_add, pk_lRem (by omega) (by omega) (by omega), lN_i]
  rfl
theorem l2_31 : ¬ (2147483648 : Int64) = 0 := by decide
theorem i65 : ¬ (65536 : Int32) = 0 := by decide
theorem sp_draw9 {d n : Nat} {Q : Int32 → Int32 → Prop} (hd : d < 2 ^ 31) (h0 : 0 < n) (hn : n ≤ 24) (h : Q (nI (lcg d / 65536 % n)) (nI (lcg d))) : wp_X9_draw (nI d) (nI n) Q := by
  unfold wp_X9_draw
  refine ⟨l2_31, ?_⟩
  rw [J_lcg hd]
  rintro x1 rfl
  refine ⟨i65, ?_⟩
  have := lcg_lt d
  rw [show (65536 : Int32) = nI 65536 from rfl, pk_div (by omega) (by omega) (by omega)]
  exact sp_leftOver (by omega) h0 (by omega) h
theorem sp_draw10 {d n : Nat} {Q : Int32 → Int32 → Prop} (hd : d < 2 ^ 31) (h0 : 0 < n) (hn : n ≤ 24) (h : Q (nI (lcg d / 65536 % n)) (nI (lcg d))) : wp_X10_draw (nI d) (nI n) Q := by
  unfold wp_X10_draw
  refine ⟨l2_31, ?_⟩
  rw [J_lcg hd]
  rintro x1 rfl
  refine ⟨i65, nI_ne0 h0 (by omega), ?_⟩
  have := lcg_lt d
  rw [show (65536 : Int32) = nI 65536 from rfl, pk_div (by omega) (by omega) (by omega), pk_rem (by omega) h0 (by omega)]
  exact h
/-- what one draw makes of a rhythm, and of the seed -/
def ns (n s d : Nat) : Nat := if lcg d / 65536 % 8 ≤ 4 then s ^^^ 2 ^ (lcg (lcg d) / 65536 % n) else if lcg d / 65536 % 8 = 5 then mv n s (lcg (lcg d) / 65536 % n % n) else if lcg d / 65536 % 8 = 6 then (2 ^ n - 1) ^^^ s else bh n s
def nd (d : Nat) : Nat := if lcg d / 65536 % 8 ≤ 5 then lcg (lcg d) else lcg d
theorem ns_lt {n s d : Nat} (h0 : 0 < n) (hs : s < 2 ^ n) : ns n s d < 2 ^ n := by
  unfold ns
  split
  · exact Nat.xor_lt_two_pow hs (bit_lt (Nat.mod_lt _ h0))
  · split
    · exact mv_lt _ _ _
    · split
      · exact full_xor hs
      · exact bh_lt h0
theorem nd_lt (d : Nat) : nd d < 2 ^ 31 := by
  unfold nd
  split
  · exact lcg_lt _
  · exact lcg_lt _
def sdk (n s d : Nat) : Nat → Nat × Nat
  | 0 => (s, d)
  | k + 1 => (ns n (sdk n s d k).1 (sdk n s d k).2, nd (sdk n s d k).2)
def Ank (pn : Int32) : Nat → Int32
  | 0 => pn
  | k + 1 => An (Ank pn k)
def Ack (pc : Int32) : Nat → Int32
  | 0 => pc
  | k + 1 => Ac (Ack pc k)
def fbk (n : Nat) (pn : Int32) (fb : Nat → Int32) : Nat → Nat → Int32
  | 0 => fb
  | k + 1 => upd (fbk n pn fb k) (Ap (Ank pn k)) (nI n)
def frk (n s d : Nat) (pn : Int32) (fr : Nat → Int32) : Nat → Nat → Int32
  | 0 => fr
  | k + 1 => upd (frk n s d pn fr k) (Ap (Ank pn k)) (nI (sdk n s d k).1)
theorem sdk_lt {n s d : Nat} (h0 : 0 < n) (hs : s < 2 ^ n) (hd : d < 2 ^ 31) : ∀ k, (sdk n s d k).1 < 2 ^ n ∧ (sdk n s d k).2 < 2 ^ 31
  | 0 => ⟨hs, hd⟩
  | k + 1 => ⟨ns_lt h0 (sdk_lt h0 hs hd k).1, nd_lt _⟩
def Pv (m : Nat) (pn pc : Int32) : Prop := ∃ x c : Nat, x ≤ m ∧ c ≤ 30 ∧ pn = nI x ∧ pc = nI c
theorem pv_of {B : Nat} {pn pc mu : Int32} {fb fr gb gr : Nat → Int32} (h : Ps B pn pc fb fr mu gb gr) : Pv (2 ^ 20) pn pc := by
  obtain ⟨x, c, hcx, hx, hc, e1, e2, _, _⟩ := h
  exact ⟨x, c, by omega, hc, e1, e2⟩
theorem pv_k {pn pc : Int32} (h : Pv (2 ^ 20) pn pc) : ∀ k, k ≤ 2 ^ 20 → Pv (2 ^ 20 + k) (Ank pn k) (Ack pc k)
  | 0, _ => h
  | k + 1, hk => by
    obtain ⟨x, c, hx, hc, e1, e2⟩ := pv_k h k (by omega)
    refine ⟨x + 1, min (c + 1) 30, by omega, Nat.min_le_right _ _, ?_, ?_⟩
    · show An (Ank pn k) = _
      rw [e1]; unfold An; rw [J_cl (by omega)]
    · show Ac (Ack pc k) = _
      rw [e2]; unfold Ac; rw [J_cl (by omega)]
theorem sp_changeV {m : Nat} {pn pc b r p1 p2 : Int32} {fb fr : Nat → Int32} {Q : Int32 → Int32 → Int32 → Int32 → Int32 → (Nat → Int32) → (Nat → Int32) → Prop} (hm : m ≤ 2 ^ 21) (h : Pv m pn pc) (hQ : Q p2 p1 p2 (An pn) (Ac pc) (upd fb (Ap pn) b) (upd fr (Ap pn) r)) : wp_X9_change b r pn pc fb fr p1 p2 Q := by
  obtain ⟨x, c, hx, hc, rfl, rfl⟩ := h
  unfold wp_X9_change
  exact sp_addN (by omega) hc hQ
theorem sp_byDraws {m n s d : Nat} {pn pc : Int32} {fb fr : Nat → Int32} {Q : Int32 → Int32 → Int32 → Int32 → Int32 → (Nat → Int32) → (Nat → Int32) → Prop} (h0 : 0 < n) (hn : n ≤ 24) (hs : s < 2 ^ n) (hd : d < 2 ^ 31) (hm21 : m ≤ 2 ^ 21) (hP : Pv m pn pc) (h : Q (nI n) (nI (ns n s d)) (nI (nd d)) (An pn) (Ac pc) (upd fb (Ap pn) (nI n)) (upd fr (Ap pn) (nI s))) : wp_X9_changeByDraws (nI n) (nI s) (nI d) pn pc fb fr Q := by
  unfold wp_X9_changeByDraws wp_X9_changeByDraws_j124
  refine sp_draw9 (n := 8) hd (by omega) (by omega) ?_
  have hl := lcg_lt d
  have hm := Nat.mod_lt (lcg (lcg d) / 65536) h0
  unfold ns nd at h
  have hk : lcg d / 65536 % 8 < 8 := Nat.mod_lt _ (by omega)
  obtain ⟨k, ek⟩ : ∃ k, k = lcg d / 65536 % 8 := ⟨_, rfl⟩
  rw [← ek] at h hk ⊢
  refine b_lt (a := 4) (by omega) (by omega) (fun q => ?_) (fun q => ?_)
  · rw [if_neg (show ¬ k ≤ 4 by omega)] at h
    refine b_ne (b := 5) (by omega) (by omega) (fun q5 => ?_) (fun q5 => ?_)
    · rw [if_neg q5, if_neg (show ¬ k ≤ 5 by omega)] at h
      refine b_ne (b := 6) (by omega) (by omega) (fun q6 => ?_) (fun q6 => ?_)
      · rw [if_neg q6] at h
        exact sp_mirrored h0 hn hs (sp_changeV hm21 hP h)
      · rw [if_pos q6] at h
        exact sp_inverted hn hs (sp_changeV hm21 hP h)
    · rw [if_pos q5, if_pos (show k ≤ 5 by omega)] at h
      refine sp_draw9 hl h0 hn ?_
      exact sp_moved h0 hn hs (by omega) (sp_changeV hm21 hP h)
  · rw [if_pos q, if_pos (show k ≤ 5 by omega)] at h
    refine sp_draw9 hl h0 hn ?_
    rw [J_shl1 (by omega), nx_xor]
    exact sp_changeV hm21 hP h
theorem sp_drift10 {B n N s d : Nat} {pn pc : Int32} {fb fr : Nat → Int32} {Q : Int32 → Int32 → Int32 → Int32 → (Nat → Int32) → (Nat → Int32) → Prop} (h0 : 0 < n) (hn : n ≤ 24) (hs : s < 2 ^ n) (hd : d < 2 ^ 31) (hN : N ≤ 30) (h : ∀ mu gb gr, Ps B (Ank pn N) (Ack pc N) (fbk n pn fb N) (frk n s d pn fr N) mu gb gr → Q (nI (sdk n s d N).1) (nI (sdk n s d N).1) (nI (sdk n s d N).2) mu gb gr) : ∀ k j, j + k = N → ∀ mu gb gr, Ps (B + k) (Ank pn j) (Ack pc j) (fbk n pn fb j) (frk n s d pn fr j) mu gb gr → wp_X10_drift_h17 (nI n) Q (k + 1) (nI N) (nI j) (nI (sdk n s d j).1) (nI (sdk n s d j).2) mu gb gr := by
  intro k
  induction k with
  | zero =>
    intro j hj mu gb gr hP
    rw [Nat.add_zero] at hj
    subst hj
    unfold wp_X10_drift_h17
    exact br_t (nI_le (Nat.le_refl _) (by omega)) (h _ _ _ hP)
  | succ k ih =>
    intro j hj mu gb gr hP
    rw [← Nat.add_assoc] at hP
    unfold wp_X10_drift_h17
    refine br_f (nI_ge (by omega) (by omega)) ?_
    have hlt := sdk_lt h0 hs hd j
    have hih := ih (j + 1) (by omega)
    have e1 : (sdk n s d (j + 1)).1 = ns n (sdk n s d j).1 (sdk n s d j).2 := rfl
    have e2 : (sdk n s d (j + 1)).2 = nd (sdk n s d j).2 := rfl
    have e3 : Ank pn (j + 1) = An (Ank pn j) := rfl
    have e4 : Ack pc (j + 1) = Ac (Ack pc j) := rfl
    have e5 : fbk n pn fb (j + 1) = upd (fbk n pn fb j) (Ap (Ank pn j)) (nI n) := rfl
    have e6 : frk n s d pn fr (j + 1) = upd (frk n s d pn fr j) (Ap (Ank pn j)) (nI (sdk n s d j).1) := rfl
    rw [e1, e2, e3, e4, e5, e6] at hih
    obtain ⟨s1, es⟩ : ∃ s1, s1 = (sdk n s d j).1 := ⟨_, rfl⟩
    obtain ⟨d1, ed⟩ : ∃ d1, d1 = (sdk n s d j).2 := ⟨_, rfl⟩
    rw [← es, ← ed] at hih hlt ⊢
    obtain ⟨hs1, hd1⟩ := hlt
    refine sp_draw10 (n := 8) hd1 (by omega) (by omega) ?_
    have hl := lcg_lt d1
    have hm := Nat.mod_lt (lcg (lcg d1) / 65536) h0
    unfold ns nd at hih
    have hk : lcg d1 / 65536 % 8 < 8 := Nat.mod_lt _ (by omega)
    obtain ⟨w, ek⟩ : ∃ w, w = lcg d1 / 65536 % 8 := ⟨_, rfl⟩
    rw [← ek] at hih hk ⊢
    unfold wp_X10_drift_j108 wp_X10_drift_j110
    refine b_le (a := 5) (by omega) (by omega) (fun q => ?_) (fun q => ?_)
    · rw [if_neg (show ¬ w ≤ 4 by omega)] at hih
      refine b_ne (b := 5) (by omega) (by omega) (fun q5 => ?_) (fun q5 => ?_)
      · rw [if_neg q5, if_neg (show ¬ w ≤ 5 by omega)] at hih
        refine b_ne (b := 6) (by omega) (by omega) (fun q6 => ?_) (fun q6 => ?_)
        · rw [if_neg q6] at hih
          refine sp_behind10 h0 hn hs1 hP (fun v1 v2 v3 hP2 => ?_)
          rintro x1 rfl
          rw [nI_1]
          exact hih _ _ _ hP2
        · rw [if_pos q6] at hih
          refine sp_over10 h0 hn hs1 hP (fun v1 v2 v3 hP2 => ?_)
          rintro x1 rfl
          rw [nI_1]
          exact hih _ _ _ hP2
      · rw [if_pos q5, if_pos (show w ≤ 5 by omega)] at hih
        refine sp_draw10 hl h0 hn ?_
        refine sp_moved10 h0 hn hs1 (by omega) (sp_becomes h0 hn hs1 hP (fun v1 v2 v3 hP2 => ?_))
        rintro x1 rfl
        rw [nI_1]
        exact hih _ _ _ hP2
    · rw [if_pos (show w ≤ 4 by omega), if_pos (show w ≤ 5 by omega)] at hih
      refine sp_draw10 hl h0 hn ?_
      rw [J_shl1 (by omega), nx_xor]
      refine sp_becomes h0 hn hs1 hP (fun v1 v2 v3 hP2 => ?_)
      rintro x1 rfl
      rw [nI_1]
      exact hih _ _ _ hP2
/-- the seed -/
def Sd (xd md : Int32) : Prop := ∃ d : Nat, d < 2 ^ 31 ∧ xd = nI d ∧ md = nI d
theorem cs_drift {B : Nat} {xb xr mb mr pn pc mu x xd md : Int32} {fb fr gb gr : Nat → Int32} {V : Prop} {K : Int32 → Int32 → Int32 → Int32 → Int32 → (Nat → Int32) → (Nat → Int32) → Int32 → Int32 → Int32 → (Nat → Int32) → (Nat → Int32) → Prop} (hR : Rh xb xr mb mr) (hS : Sd xd md) (hP : Ps (B + 30) pn pc fb fr mu gb gr) (hV : V) (hK : ∀ a b s c d e f g s2 h i j, Rh a b mb g → Sd s s2 → Ps B c d e f h i j → K a b s c d e f g s2 h i j) : wp_X9_drift xb xr xd pn pc fb fr x fun r a b s c d e f => V ∧ wp_X10_drift mb mr md mu gb gr x fun r2 g s2 h i j => (r = r2 → K a b s c d e f g s2 h i j) ∧ (¬ r = r2 → False) := by
  have hR' := hR
  have hS' := hS
  obtain ⟨n, s, h0, hn, hs, rfl, rfl, rfl, rfl⟩ := hR
  obtain ⟨d, hd, rfl, rfl⟩ := hS
  unfold wp_X9_drift wp_X10_drift wp_X9_drift_j11
  rcases rg x 1 30 with ⟨N, rfl, h1, h2, h3⟩ | hx
  · have ht := tI h3
    have hlt := sdk_lt h0 hs hd N
    refine rg_good (a := 1) (b := 30) rfl rfl (by omega) (by omega) ?_
    refine lp_up (P := fun k j => wp_X9_drift_h16 _ k (nI N) (nI j) (nI n) (nI (sdk n s d j).1) (nI (sdk n s d j).2) (Ank pn j) (Ack pc j) (fbk n pn fb j) (frk n s d pn fr j)) (a := 0) (n := N) (by omega) ⟨1, ?_⟩ (fun j _ hj ⟨k, hk⟩ => ⟨k + 1, ?_⟩)
    · unfold wp_X9_drift_h16
      refine br_t (nI_le (Nat.le_refl _) (by omega)) ⟨hV, ?_⟩
      refine in_good (a := 1) (b := 30) rfl rfl (by omega) (by omega) ⟨fun _ => ⟨N + 1, ?_⟩, fun q => absurd q (by decide)⟩
      refine sp_drift10 (B := B) (pn := pn) (pc := pc) (fb := fb) (fr := fr) h0 hn hs hd h2 (fun mu' gb' gr' hP2 => ?_) N 0 (by omega) mu gb gr (hP.mn (by omega))
      exact eqk rfl (hK _ _ _ _ _ _ _ _ _ _ _ _ (Rh.mk' h0 hn hlt.1) ⟨_, hlt.2, rfl, rfl⟩ hP2)
    · unfold wp_X9_drift_h16
      refine br_f (nI_ge hj (by omega)) ?_
      have hlt := sdk_lt h0 hs hd j
      refine sp_byDraws h0 hn hlt.1 hlt.2 (show 2 ^ 20 + j ≤ 2 ^ 21 by omega) (pv_k (pv_of hP) j (by omega)) ?_
      rintro x9 rfl
      rw [nI_1]
      exact hk
  · refine rg_bad (a := 1) (b := 30) rfl rfl hx ⟨hV, ?_⟩
    refine in_bad (a := 1) (b := 30) rfl rfl hx ⟨fun q => absurd rfl q, fun _ => ?_⟩
    exact eqk rfl (hK _ _ _ _ _ _ _ _ _ _ _ _ hR' hS' (hP.mn (by omega)))
