/-! ===== the reference's gaps ===== -/
theorem J_low {s T : Nat} (hs : s < 2 ^ 31) (hb : s.testBit T = true) (hl : ∀ i, i < T → s.testBit i = false) {Q : Int32 → Prop} (h : Q (nI T)) : wp_X10_firstFree (nI s ^^^ (-1)) Q := by
  rw [J_not (by omega)]
  have hT : T < 31 := by
    rcases Nat.lt_or_ge T 31 with q | q
    · exact q
    · rw [tb_big hs q] at hb; cases hb
  have e : ∀ i, i < 32 → (2 ^ 32 - 1 - s).testBit i = !s.testBit i := by
    intro i hi
    rw [show 2 ^ 32 - 1 - s = 2 ^ 32 - (s + 1) by omega, Nat.testBit_two_pow_sub_succ (by omega)]
    simp [hi]
  exact sp_firstFree (by omega) (by omega) (by rw [e T (by omega), hb]; rfl) (fun i hi => by rw [e i (by omega), hl i hi]; rfl) h
theorem kth_between {n s k j : Nat} (hs : s < 2 ^ n) (hn : n ≤ 32) (hk : k + 1 < bc s) (h1 : kth s k < j) (h2 : j < kth s (k + 1)) : s.testBit j = false := by
  obtain ⟨a1, a2, a3⟩ := kth_ok hs hn (by omega : k < bc s)
  obtain ⟨b1, b2, b3⟩ := kth_ok hs hn hk
  cases hb : s.testBit j with
  | false => rfl
  | true =>
    have c1 : fb_ct (fun i => s.testBit i) (kth s k + 1) = k + 1 := by rw [fb_ct_succ, a3, a2]; rfl
    have c2 := fb_ct_mono (fun i => s.testBit i) (show kth s k + 1 ≤ j from h1)
    have c3 : fb_ct (fun i => s.testBit i) (j + 1) = fb_ct (fun i => s.testBit i) j + 1 := by rw [fb_ct_succ, hb]; rfl
    have c4 := fb_ct_mono (fun i => s.testBit i) (show j + 1 ≤ kth s (k + 1) from h2)
    omega
theorem kth_first {n s j : Nat} (hs : s < 2 ^ n) (hn : n ≤ 32) (hk : 0 < bc s) (h : j < kth s 0) : s.testBit j = false := by
  obtain ⟨a1, a2, a3⟩ := kth_ok hs hn hk
  exact fb_ct_zero.mp a3 j h
theorem kth_last {n s j : Nat} (hs : s < 2 ^ n) (hn : n ≤ 32) (hk : 0 < bc s) (h : kth s (bc s - 1) < j) (hj : j < n) : s.testBit j = false := by
  obtain ⟨a1, a2, a3⟩ := kth_ok hs hn (by omega : bc s - 1 < bc s)
  cases hb : s.testBit j with
  | false => rfl
  | true =>
    have c1 : fb_ct (fun i => s.testBit i) (kth s (bc s - 1) + 1) = bc s := by rw [fb_ct_succ, a3, a2]; simp; omega
    have c2 := fb_ct_mono (fun i => s.testBit i) (show kth s (bc s - 1) + 1 ≤ j from h)
    have c3 : fb_ct (fun i => s.testBit i) (j + 1) = fb_ct (fun i => s.testBit i) j + 1 := by rw [fb_ct_succ, hb]; rfl
    have c4 := fb_ct_mono (fun i => s.testBit i) (show j + 1 ≤ n from hj)
    have c5 := bc_n hs hn
    omega
/-- the next struck beat is looked for, round the cycle -/
theorem rs_seek {n s : Nat} {L : Int32 → Int32 → Prop} {Q : Int32 → Prop} {l3 : Int32} {b : Nat} (h0 : 0 < n) (hn : n ≤ 24) (hs : s < 2 ^ n) (hb : s.testBit b = true) (hbn : b < n) (h : L (nI b) (l3 + (-1))) :
    ∀ d a, a < n → (a + d) % n = b → (∀ e, e < d → s.testBit ((a + e) % n) = false) → ∃ k, wp_X10_struckAt_h25 (nI n) (nI s) L Q k (nI a) l3
  | 0, a, ha, hab, _ => by
    have hp : 2 ^ n ≤ 2 ^ 24 := Nat.pow_le_pow_right (by omega) hn
    rw [Nat.add_zero, Nat.mod_eq_of_lt ha] at hab
    subst hab
    refine ⟨1, ?_⟩
    unfold wp_X10_struckAt_h25
    refine sp_has (by omega) (by omega) ?_
    rw [hb]
    refine ⟨fun _ => ?_, fun q => absurd q (by decide)⟩
    intro x e
    rw [e]
    exact h
  | d + 1, a, ha, hab, hno => by
    have hp : 2 ^ n ≤ 2 ^ 24 := Nat.pow_le_pow_right (by omega) hn
    have e0 := hno 0 (by omega)
    rw [Nat.add_zero, Nat.mod_eq_of_lt ha] at e0
    have hm : ∀ e, ((a + 1) % n + e) % n = (a + (e + 1)) % n := fun e => by rw [Nat.mod_add_mod, Nat.add_assoc, Nat.add_comm 1 e]
    obtain ⟨k, hk⟩ := rs_seek h0 hn hs hb hbn h d ((a + 1) % n) (Nat.mod_lt _ h0) (by rw [hm]; exact hab) (fun e he => by rw [hm]; exact hno (e + 1) (by omega))
    refine ⟨k + 1, ?_⟩
    unfold wp_X10_struckAt_h25
    refine sp_has (by omega) (by omega) ?_
    rw [e0]
    refine ⟨fun q => absurd rfl q, fun _ => ⟨nI_ne0 h0 (by omega), ?_⟩⟩
    intro x e
    rw [nI_1, pk_rem (by omega) h0 (by omega)] at e
    rw [e]
    exact hk
/-- the k-th struck beat, round and round -/
def kr (s k : Nat) : Nat := if k < bc s then kth s k else kth s 0
theorem sp_struckAt10 {n s k : Nat} {Q : Int32 → Prop} (h0 : 0 < n) (hn : n ≤ 24) (hs : s < 2 ^ n) (hc : 0 < bc s) (hk : k ≤ bc s) (h : Q (nI (kr s k))) : wp_X10_struckAt (nI n) (nI s) (nI k) Q := by
  have hp : 2 ^ n ≤ 2 ^ 24 := Nat.pow_le_pow_right (by omega) hn
  have hbc := bc_le hs (by omega : n ≤ 32)
  unfold wp_X10_struckAt
  refine J_low (by omega) (kth_ok hs (by omega) hc).2.1 (fun i hi => kth_first hs (by omega) hc hi) ?_
  have key := lp_up (P := fun z j => wp_X10_struckAt_h12 (nI n) (nI s) Q z (nI (kr s j)) (nI (k - j))) (a := 0) (n := k) (by omega) ⟨1, ?_⟩ (fun j _ hj ⟨z, hz⟩ => ⟨z + 1, ?_⟩)
  · obtain ⟨z, hz⟩ := key
    refine ⟨z, ?_⟩
    have e : kr s 0 = kth s 0 := by unfold kr; rw [if_pos hc]
    rw [e, Nat.sub_zero] at hz
    exact hz
  · unfold wp_X10_struckAt_h12
    rw [Nat.sub_self]
    exact br_t (by decide) h
  · unfold wp_X10_struckAt_h12
    refine br_f (nI_nle (by omega) (by omega)) ⟨nI_ne0 h0 (by omega), ?_⟩
    have e1 : kr s j = kth s j := by unfold kr; rw [if_pos (by omega)]
    obtain ⟨a1, a2, a3⟩ := kth_ok hs (by omega : n ≤ 32) (by omega : j < bc s)
    intro x6 e6
    rw [e1, nI_1, pk_rem (by omega) h0 (by omega)] at e6
    rw [e6]
    have hcont : wp_X10_struckAt_h12 (nI n) (nI s) Q z (nI (kr s (j + 1))) (nI (k - j) + (-1)) := by
      rw [sb_m1 (by omega), show k - j - 1 = k - (j + 1) by omega]
      exact hz
    by_cases hw : j + 1 < bc s
    · have e2 : kr s (j + 1) = kth s (j + 1) := by unfold kr; rw [if_pos hw]
      obtain ⟨b1, b2, b3⟩ := kth_ok hs (by omega : n ≤ 32) hw
      have hlt := kth_mono hs (by omega : n ≤ 32) (Nat.lt_add_one j) hw
      rw [e2] at hcont
      have hlt2 : kth s j + 1 < n ∨ kth s j + 1 = n := by omega
      refine rs_seek h0 hn hs b2 b1 hcont (kth s (j + 1) - (kth s j + 1)) ((kth s j + 1) % n) (Nat.mod_lt _ h0) ?_ (fun e he => ?_)
      · rw [Nat.mod_add_mod, show kth s j + 1 + (kth s (j + 1) - (kth s j + 1)) = kth s (j + 1) by omega, Nat.mod_eq_of_lt b1]
      · rw [Nat.mod_add_mod, Nat.mod_eq_of_lt (by omega)]
        exact kth_between hs (by omega) hw (by omega) (by omega)
    · have e2 : kr s (j + 1) = kth s 0 := by unfold kr; rw [if_neg hw]
      have ej : j = bc s - 1 := by omega
      obtain ⟨b1, b2, b3⟩ := kth_ok hs (by omega : n ≤ 32) hc
      have hle := kth_le hs (by omega : n ≤ 32) (Nat.zero_le j) (by omega)
      rw [e2] at hcont
      refine rs_seek h0 hn hs b2 b1 hcont (kth s 0 + n - (kth s j + 1)) ((kth s j + 1) % n) (Nat.mod_lt _ h0) ?_ (fun e he => ?_)
      · rw [Nat.mod_add_mod, show kth s j + 1 + (kth s 0 + n - (kth s j + 1)) = kth s 0 + n by omega, Nat.add_mod_right, Nat.mod_eq_of_lt b1]
      · rw [Nat.mod_add_mod]
        rcases Nat.lt_or_ge (kth s j + 1 + e) n with q | q
        · rw [Nat.mod_eq_of_lt q]
          exact kth_last hs (by omega) hc (by rw [← ej]; omega) q
        · rw [mod2 (by omega), if_neg (by omega)]
          exact kth_first hs (by omega) hc (by omega)
theorem sp_gapAt10 {n s k : Nat} {Q : Int32 → Prop} (h0 : 0 < n) (hn : n ≤ 24) (hs : s < 2 ^ n) (hk : k < bc s) (h : Q (nI (gp n s k))) : wp_X10_gapAt (nI n) (nI s) (nI k) Q := by
  have hp : 2 ^ n ≤ 2 ^ 24 := Nat.pow_le_pow_right (by omega) hn
  obtain ⟨a1, a2, a3⟩ := kth_ok hs (by omega : n ≤ 32) hk
  have hgp := gp_pos hs (by omega : n ≤ 32) hk
  unfold wp_X10_gapAt wp_X10_gapAt_j28
  rw [nI_1]
  refine sp_struckAt10 h0 hn hs (by omega) (by omega) ?_
  refine sp_struckAt10 h0 hn hs (by omega) (by omega) ?_
  have e1 : kr s k = kth s k := by unfold kr; rw [if_pos hk]
  rw [e1]
  intro x3 e3
  unfold gp at h hgp
  by_cases hw : k + 1 < bc s
  · have hlt := kth_mono hs (by omega : n ≤ 32) (Nat.lt_add_one k) hw
    rw [if_pos hw] at h hgp
    have e2 : kr s (k + 1) = kth s (k + 1) := by unfold kr; rw [if_pos hw]
    rw [e2, pk_sub (by omega)] at e3
    rw [e3]
    exact br_f (nI_nle (by omega) (by omega)) h
  · rw [if_neg hw] at h hgp
    have hle := kth_le hs (by omega : n ≤ 32) (Nat.zero_le k) hk
    have e2 : kr s (k + 1) = kth s 0 := by unfold kr; rw [if_neg hw]
    rw [e2] at e3
    have e4 : x3 ≤ 0 := by
      rw [e3, fa_le, pk_sub_toInt (by omega) (by omega)]
      have : (0 : Int32).toInt = 0 := by decide
      omega
    refine br_t e4 ?_
    have e5 : x3 + nI n = nI (kth s 0 + n - kth s k) := by
      rw [e3]
      apply Int32.toInt_inj.mp
      rw [Int32.toInt_add, pk_sub_toInt (by omega) (by omega), nI_toInt (by omega), nI_toInt (by omega), Int.bmod_eq_of_le (by omega) (by omega)]
      omega
    rw [e5]
    exact h
theorem sp_gap10T {n s k : Nat} {Q : Int32 → Prop} (h0 : 0 < n) (hn : n ≤ 24) (hs : s < 2 ^ n) (hk : k < bc s) (h : Q (nI (gp n s k))) : wp_X10_gap (nI n) (nI s) (nI k) Q := by
  have hp : 2 ^ n ≤ 2 ^ 24 := Nat.pow_le_pow_right (by omega) hn
  have hbc := bc_le hs (by omega : n ≤ 32)
  unfold wp_X10_gap wp_X10_gap_j28
  refine sp_bits (by omega) ?_
  refine sp_in (a := 0) (b := (bc s : Int) - 1) (by decide) (J_pred64 (by omega) (by omega)) (fun _ _ => ⟨fun q => absurd q (by decide), fun _ => sp_gapAt10 h0 hn hs hk h⟩) (fun q => ?_)
  rw [nI_toInt (by omega)] at q
  omega
theorem sp_gap10F {n s : Nat} {x : Int32} {Q : Int32 → Prop} (hn : n ≤ 24) (hs : s < 2 ^ n) (hx : x < 0 ∨ nI (bc s) ≤ x) (h : Q (-1)) : wp_X10_gap (nI n) (nI s) x Q := by
  have hp : 2 ^ n ≤ 2 ^ 24 := Nat.pow_le_pow_right (by omega) hn
  have hbc := bc_le hs (by omega : n ≤ 32)
  have e0 : (0 : Int32).toInt = 0 := by decide
  unfold wp_X10_gap wp_X10_gap_j28
  refine sp_bits (by omega) ?_
  have e1 : ((nI (bc s) - 1 : Int32).toInt64).toInt = (bc s : Int) - 1 := by
    rw [Int32.toInt_toInt64, show (1 : Int32) = nI 1 from rfl, pk_sub_toInt (by omega) (by omega)]
    rfl
  refine sp_in (a := 0) (b := (bc s : Int) - 1) (by decide) e1 (fun q1 q2 => ?_) (fun _ => ⟨fun _ => h, fun q => absurd rfl q⟩)
  rcases hx with hx | hx
  · rw [fa_lt] at hx
    omega
  · rw [fa_le, nI_toInt (by omega)] at hx
    omega
theorem sp_widest {n s : Nat} {b : Bool} {Q : Int32 → Prop} (h0 : 0 < n) (hn : n ≤ 24) (hs : s < 2 ^ n) (h : Q (if bc s = 0 then -1 else nI (if b then gl n s (bc s - 1) else gg n s (bc s - 1)))) : wp_X10_widest (nI n) (nI s) (nI b.toNat) Q := by
  have hp : 2 ^ n ≤ 2 ^ 24 := Nat.pow_le_pow_right (by omega) hn
  have hbc := bc_le hs (by omega : n ≤ 32)
  obtain ⟨w, hw⟩ : ∃ w : Nat → Int32, w = fun j => if j = 0 then -1 else nI (if b then gl n s (j - 1) else gg n s (j - 1)) := ⟨_, rfl⟩
  unfold wp_X10_widest
  have key := lp_up (P := fun z j => wp_X10_widest_h4 (nI n) (nI s) Q z (nI b.toNat) (w j) (nI j)) (a := 0) (n := bc s) (by omega) ⟨1, ?_⟩ (fun j _ hj ⟨z, hz⟩ => ⟨z + 1, ?_⟩)
  · obtain ⟨z, hz⟩ := key
    refine ⟨z, ?_⟩
    have e : w 0 = -1 := by rw [hw]; rfl
    rw [e] at hz
    exact hz
  · unfold wp_X10_widest_h4
    refine sp_bits (by omega) ?_
    refine br_t (nI_le (Nat.le_refl _) (by omega)) ?_
    rw [hw]
    exact h
  · unfold wp_X10_widest_h4
    refine sp_bits (by omega) ?_
    refine br_f (nI_ge hj (by omega)) ?_
    refine sp_gapAt10 h0 hn hs hj ?_
    have g1 := gp_pos hs (by omega : n ≤ 32) hj
    unfold wp_X10_widest_j46 wp_X10_widest_j50 wp_X10_widest_j51 wp_X10_widest_j64
    have fin : ∀ (v : Int32), v = w (j + 1) → ∀ x1 : Int32, x1 = nI j + 1 → (wp_X10_widest_h4 (nI n) (nI s) Q z) (nI b.toNat) v x1 := by
      intro v hv x1 e1
      rw [nI_1] at e1
      rw [hv, e1]
      exact hz
    have eS : w (j + 1) = nI (if b then gl n s j else gg n s j) := by rw [hw]; rfl
    by_cases hj0 : j = 0
    · subst hj0
      have e : w 0 = -1 := by rw [hw]; rfl
      have e2 : w 1 = nI (gp n s 0) := by rw [hw]; cases b <;> rfl
      rw [e]
      refine ⟨fun _ => ⟨fun q => absurd q (by decide), fun _ => fin _ e2.symm⟩, fun q => absurd rfl q⟩
    · have eW : w j = nI (if b then gl n s (j - 1) else gg n s (j - 1)) := by rw [hw]; simp [hj0]
      have ej : j = (j - 1) + 1 := by omega
      have hne : ∀ {v : Nat}, v < 2 ^ 31 → ¬ nI v = (-1 : Int32) := by
        intro v hv q
        have := congrArg Int32.toInt q
        rw [nI_toInt hv, show (-1 : Int32).toInt = -1 from by decide] at this
        omega
      cases b with
      | true =>
        have g2 := gl_pos hs (by omega : n ≤ 32) (j - 1) (by omega)
        have e9 : gl n s j = if gp n s j < gl n s (j - 1) then gp n s j else gl n s (j - 1) := by
          obtain ⟨i, rfl⟩ : ∃ i, j = i + 1 := ⟨j - 1, by omega⟩
          rfl
        have eW2 : w j = nI (gl n s (j - 1)) := eW
        have eS2 : w (j + 1) = nI (gl n s j) := eS
        rw [eW2]
        refine ⟨fun q => absurd q (hne (by omega)), fun _ => ⟨fun q => absurd q (by decide), fun _ => ?_⟩⟩
        refine b_le (by omega) (by omega) (fun q => ⟨fun _ => fin _ ?_, fun q => absurd rfl q⟩) (fun q => ⟨fun q => absurd q (by decide), fun _ => fin _ ?_⟩)
        · rw [eS2, e9, if_neg (by omega)]
        · rw [eS2, e9, if_pos q]
      | false =>
        have g2 := gg_pos hs (by omega : n ≤ 32) (j - 1) (by omega)
        have e9 : gg n s j = if gg n s (j - 1) < gp n s j then gp n s j else gg n s (j - 1) := by
          obtain ⟨i, rfl⟩ : ∃ i, j = i + 1 := ⟨j - 1, by omega⟩
          rfl
        have eW2 : w j = nI (gg n s (j - 1)) := eW
        have eS2 : w (j + 1) = nI (gg n s j) := eS
        rw [eW2]
        refine ⟨fun q => absurd q (hne (by omega)), fun _ => ⟨fun _ => ?_, fun q => absurd rfl q⟩⟩
        refine b_le (by omega) (by omega) (fun q => ⟨fun _ => fin _ ?_, fun q => absurd rfl q⟩) (fun q => ⟨fun q => absurd q (by decide), fun _ => fin _ ?_⟩)
        · rw [eS2, e9, if_neg (by omega)]
        · rw [eS2, e9, if_pos q]
