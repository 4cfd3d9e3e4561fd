/-! ===== deeds: stretch, twice, cycle, undo ===== -/
theorem str_all : (List.range 25).all (fun n => (List.range 24).all (fun m => decide (0 < n → 0 < m → (orf (2 ^ n - 1) (fun j => j * m % n) n = 2 ^ n - 1 ↔ Nat.gcd m n ≤ 1)))) = true := by decide +kernel
theorem str_ok {n m : Nat} (h0 : 0 < n) (hn : n ≤ 24) (hm : 0 < m) (hm2 : m ≤ 23) : orf (2 ^ n - 1) (fun j => j * m % n) n = 2 ^ n - 1 ↔ Nat.gcd m n ≤ 1 := by
  have h1 := List.all_eq_true.mp str_all n (List.mem_range.mpr (by omega))
  have h2 := List.all_eq_true.mp h1 m (List.mem_range.mpr (by omega))
  exact of_decide_eq_true h2 h0 hm
theorem sp_str {n s m : Nat} {Q : Int32 → Prop} (h0 : 0 < n) (hn : n ≤ 24) (hs : s < 2 ^ n) (hm : m ≤ 23) (h : Q (nI (orf s (fun j => j * m % n) n))) : wp_X6_stretched (nI n) (nI s) (nI m) Q := by
  refine sp_stretched h0 hn hs (fun j _ => Nat.mod_lt _ h0) (fun j hj P hP => ?_) h
  rw [pk_mul]
  have : j * m ≤ 24 * 23 := Nat.mul_le_mul (by omega) hm
  exact sp_leftOver (by omega) h0 (by omega) hP
theorem cs_stretch {B : Nat} {xb xr mb mr pn pc mu x : Int32} {fb fr gb gr : Nat → Int32} {V : Prop} {K : Int32 → Int32 → Int32 → Int32 → (Nat → Int32) → (Nat → Int32) → Int32 → Int32 → (Nat → Int32) → (Nat → Int32) → Prop} (hR : Rh xb xr mb mr) (hP : Ps (B + 1) pn pc fb fr mu gb gr) (hV : V) (hK : ∀ a b c d e f g h i j, Rh a b mb g → Ps B c d e f h i j → K a b c d e f g h i j) : wp_X9_stretch xb xr pn pc fb fr x fun r a b c d e f => V ∧ wp_X10_stretch mb mr mu gb gr x fun r2 g h i j => (r = r2 → K a b c d e f g h i j) ∧ (¬ r = r2 → False) := by
  have hR' := hR
  obtain ⟨n, s, h0, hn, hs, rfl, rfl, rfl, rfl⟩ := hR
  have hp : 2 ^ n ≤ 2 ^ 24 := Nat.pow_le_pow_right (by omega) hn
  have hp0 := Nat.two_pow_pos n
  unfold wp_X9_stretch wp_X10_stretch wp_X9_stretch_j11
  rcases rg x 1 23 with ⟨m, rfl, h1, h2, h3⟩ | hx
  · have ht := tI h3
    have hgl := Nat.gcd_le_right m h0
    refine rg_good (a := 1) (b := 23) rfl rfl (by omega) (by omega) ?_
    refine sp_full (by omega) ?_
    refine sp_str h0 hn (by omega) h2 ?_
    have hlt : orf (2 ^ n - 1) (fun j => j * m % n) n < 2 ^ n := orf_lt (fun k _ => Nat.mod_lt _ h0)
    have hso := str_ok h0 hn (show 0 < m by omega) h2
    refine b_eq (by omega) (by omega) (fun q => ?_) (fun q => ?_)
    · have hg := hso.mp q
      refine sp_str h0 hn hs h2 (sp_change hP ⟨hV, ?_⟩)
      refine in_good (a := 1) (b := 23) rfl rfl (by omega) (by omega) ⟨fun _ => ?_, fun q => absurd q (by decide)⟩
      refine sp_common ?_ (by omega) (by omega)
      refine b_le (b := 1) (by omega) (by omega) (fun _ => ?_) (fun q2 => by omega)
      have hK2 : ∀ v1 v2 v3, Ps B (An pn) (Ac pc) (upd fb (Ap pn) (nI n)) (upd fr (Ap pn) (nI s)) v1 v2 v3 → (nI (orf s (fun j => j * m % n) n) = nI (orf s (fun j => j * m % n) n) → K (nI n) (nI (orf s (fun j => j * m % n) n)) (An pn) (Ac pc) (upd fb (Ap pn) (nI n)) (upd fr (Ap pn) (nI s)) (nI (orf s (fun j => j * m % n) n)) v1 v2 v3) ∧ (¬ nI (orf s (fun j => j * m % n) n) = nI (orf s (fun j => j * m % n) n) → False) := fun v1 v2 v3 hP2 => eqk rfl (hK _ _ _ _ _ _ _ _ _ _ (Rh.mk' h0 hn (orf_lt (fun k _ => Nat.mod_lt _ h0))) hP2)
      refine lp_up (P := fun k j => wp_X10_stretch_h34 (nI n) _ k (nI m) (nI (orf s (fun j => j * m % n) j)) (nI j) (nI s) mu gb gr) (a := 0) (n := n) (by omega) ⟨1, ?_⟩ (fun j _ hj ⟨k, hk⟩ => ⟨k + 1, ?_⟩)
      · unfold wp_X10_stretch_h34
        refine br_t (nI_le (Nat.le_refl n) (by omega)) ?_
        exact sp_becomes h0 hn hs hP (fun v1 v2 v3 hP2 => hK2 v1 v2 v3 hP2)
      · unfold wp_X10_stretch_h34
        refine br_f (nI_ge hj (by omega)) ?_
        refine sp_has (by omega) (by omega) ?_
        have e9 : orf s (fun j => j * m % n) (j + 1) = if s.testBit j then orf s (fun j => j * m % n) j ||| 2 ^ (j * m % n) else orf s (fun j => j * m % n) j := rfl
        unfold wp_X10_stretch_j68
        have hjm : j * m ≤ 24 * 23 := Nat.mul_le_mul (by omega) h2
        have hml : j * m % n < n := Nat.mod_lt _ h0
        cases hb : s.testBit j
        · rw [hb] at e9
          refine ⟨fun _ => ?_, fun q => absurd rfl q⟩
          intro x1 e1
          intro x2 e2
          rw [nI_1] at e2
          rw [show (0 : Int32) = nI 0 from rfl, fa_or, Nat.or_zero] at e1
          rw [e1, e2]
          rw [e9] at hk
          exact hk
        · rw [hb] at e9
          refine ⟨fun q => absurd q (by decide), fun _ => ⟨nI_ne0 h0 (by omega), ?_⟩⟩
          intro x1 e1
          intro x2 e2
          rw [nI_1] at e2
          rw [pk_mul, pk_rem (by omega) h0 (by omega), J_shl1 (by omega), fa_or] at e1
          rw [e1, e2]
          rw [e9] at hk
          exact hk
    · have hg : ¬ Nat.gcd m n ≤ 1 := fun q2 => q (hso.mpr q2)
      refine ⟨hV, ?_⟩
      refine in_good (a := 1) (b := 23) rfl rfl (by omega) (by omega) ⟨fun _ => ?_, fun q => absurd q (by decide)⟩
      refine sp_common ?_ (by omega) (by omega)
      refine b_le (b := 1) (by omega) (by omega) (fun q2 => by omega) (fun q2 => ?_)
      exact eqk rfl (hK _ _ _ _ _ _ _ _ _ _ hR' hP.dn)
  · refine rg_bad (a := 1) (b := 23) rfl rfl hx ⟨hV, ?_⟩
    refine in_bad (a := 1) (b := 23) rfl rfl hx ⟨fun q => absurd rfl q, fun _ => ?_⟩
    exact eqk rfl (hK _ _ _ _ _ _ _ _ _ _ hR' hP.dn)
theorem cs_twice {B : Nat} {xb xr mb mr pn pc mu : Int32} {fb fr gb gr : Nat → Int32} {K : Int32 → Int32 → Int32 → Int32 → (Nat → Int32) → (Nat → Int32) → Int32 → Int32 → Int32 → (Nat → Int32) → (Nat → Int32) → Prop} (hR : Rh xb xr mb mr) (hP : Ps (B + 1) pn pc fb fr mu gb gr) (hK : ∀ a b c d e f g0 g h i j, Rh a b g0 g → Ps B c d e f h i j → K a b c d e f g0 g h i j) : wp_X9_twice xb xr pn pc fb fr fun r a b c d e f => wp_X10_twice mb mr mu gb gr fun r2 g0 g h i j => (r = r2 → K a b c d e f g0 g h i j) ∧ (¬ r = r2 → False) := by
  have hR' := hR
  obtain ⟨n, s, h0, hn, hs, rfl, rfl, rfl, rfl⟩ := hR
  unfold wp_X9_twice wp_X10_twice
  rw [show (2 : Int32) = nI 2 from rfl, pk_mul, pk_mul]
  refine b_le (b := 24) (by omega) (by omega) (fun q => ?_) (fun q => ?_)
  · have hp : 2 ^ n ≤ 2 ^ 12 := Nat.pow_le_pow_right (by omega) (by omega)
    have hsn : s * 2 ^ n < 2 ^ (2 * n) := by
      rw [show 2 * n = n + n by omega, Nat.pow_add]
      exact Nat.mul_lt_mul_of_pos_right hs (Nat.two_pow_pos n)
    have hp2 : 2 ^ (2 * n) ≤ 2 ^ 24 := Nat.pow_le_pow_right (by omega) (by omega)
    have hs2 : s < 2 ^ (2 * n) := Nat.lt_of_lt_of_le hs (Nat.pow_le_pow_right (by omega) (by omega))
    rw [J_shl (by omega) (by omega), fa_or]
    refine sp_change hP ?_
    refine br_t (nI_le (b := 24) q (by omega)) ?_
    refine sp_becomes h0 hn hs hP (fun v1 v2 v3 hP2 => ?_)
    rintro x7 rfl
    rw [Nat.mul_comm n 2]
    exact eqk rfl (hK _ _ _ _ _ _ _ _ _ _ _ (Rh.mk' (by omega) (by omega) (Nat.or_lt_two_pow hs2 hsn)) hP2)
  · refine br_f (nI_ge (a := 24) q (by omega)) ?_
    exact eqk rfl (hK _ _ _ _ _ _ _ _ _ _ _ hR' hP.dn)
theorem cs_cycle {B : Nat} {xb xr mb mr pn pc mu x : Int32} {fb fr gb gr : Nat → Int32} {V : Prop} {K : Int32 → Int32 → Int32 → Int32 → (Nat → Int32) → (Nat → Int32) → Int32 → Int32 → Int32 → (Nat → Int32) → (Nat → Int32) → Prop} (hR : Rh xb xr mb mr) (hP : Ps (B + 1) pn pc fb fr mu gb gr) (hV : V) (hK : ∀ a b c d e f g0 g h i j, Rh a b g0 g → Ps B c d e f h i j → K a b c d e f g0 g h i j) : wp_X9_cycle xb xr pn pc fb fr x fun r a b c d e f => V ∧ wp_X10_cycle mb mr mu gb gr x fun r2 g0 g h i j => (r = r2 → K a b c d e f g0 g h i j) ∧ (¬ r = r2 → False) := by
  have hR' := hR
  obtain ⟨n, s, h0, hn, hs, rfl, rfl, rfl, rfl⟩ := hR
  unfold wp_X9_cycle wp_X10_cycle wp_X9_cycle_j11
  rcases rg x 1 24 with ⟨m, rfl, h1, h2, h3⟩ | hx
  · have ht := tI h3
    have hp : 2 ^ m ≤ 2 ^ 24 := Nat.pow_le_pow_right (by omega) h2
    have hp0 := Nat.two_pow_pos m
    have hl : s &&& (2 ^ m - 1) < 2 ^ m := Nat.and_lt_two_pow _ (by omega)
    refine rg_good (a := 1) (b := 24) rfl rfl (by omega) (by omega) ?_
    refine sp_full (by omega) ?_
    rw [fa_and]
    refine sp_change hP (sp_bitCount (by omega) ⟨hV, ?_⟩)
    refine in_good (a := 1) (b := 24) rfl rfl (by omega) (by omega) ⟨fun _ => ?_, fun q => absurd q (by decide)⟩
    refine sp_full10 (by omega) ?_
    rw [fa_and]
    refine sp_becomes h0 hn hs hP (fun v1 v2 v3 hP2 => ?_)
    refine sp_bits (by omega) ?_
    exact eqk rfl (hK _ _ _ _ _ _ _ _ _ _ _ (Rh.mk' h1 h2 hl) hP2)
  · refine rg_bad (a := 1) (b := 24) rfl rfl hx ⟨hV, ?_⟩
    refine in_bad (a := 1) (b := 24) rfl rfl hx ⟨fun q => absurd rfl q, fun _ => ?_⟩
    exact eqk rfl (hK _ _ _ _ _ _ _ _ _ _ _ hR' hP.dn)
theorem cs_undo {B : Nat} {xb xr mb mr pn pc mu x : Int32} {fb fr gb gr : Nat → Int32} {V : Prop} {K : Int32 → Int32 → Int32 → Int32 → Int32 → Int32 → Int32 → Prop} (hR : Rh xb xr mb mr) (hP : Ps B pn pc fb fr mu gb gr) (hV : V) (hK : ∀ a b c d g0 g h, Rh a b g0 g → Ps B c d fb fr h gb gr → K a b c d g0 g h) : wp_X9_undo xb xr pn pc fb fr x fun r a b c d => V ∧ wp_X10_undo mb mr mu gb gr x fun r2 g0 g h => (r = r2 → K a b c d g0 g h) ∧ (¬ r = r2 → False) := by
  have hP' := hP
  obtain ⟨y, c, hcy, hy, hc, rfl, rfl, rfl, hi⟩ := hP
  unfold wp_X9_undo wp_X10_undo wp_X9_undo_j11
  rcases rg x 1 30 with ⟨m, rfl, h1, h2, h3⟩ | hx
  · have ht := tI h3
    refine rg_good (a := 1) (b := 30) rfl rfl (by omega) (by omega) ?_
    refine b_le (by omega) (by omega) (fun q => ?_) (fun q => ?_)
    · unfold wp_X5_stepBack wp_X5_beatsThen wp_X5_rhythmThen
      have hm := Nat.mod_lt (y - m) (show 30 > 0 by omega)
      rw [pk_sub (show m ≤ y by omega)]
      rintro x1 rfl
      rintro x2 rfl
      refine sp_place (by omega) ⟨vp_in_nI hm (by omega), sp_place (by omega) ⟨vp_in_nI hm (by omega), hV, ?_⟩⟩
      refine in_good (a := 1) (b := 30) rfl rfl (by omega) (by omega) ⟨fun _ => ?_, fun q => absurd q (by decide)⟩
      refine br_t (nI_le q (by omega)) ?_
      rintro x4 rfl
      rw [pk_sub q]
      refine ⟨vp_in_nI (by omega) (by omega), ?_⟩
      rintro x5 rfl
      refine ⟨vp_in_nI (by omega) (by omega), ?_⟩
      rintro x6 rfl
      have hi2 := hi (c - m) (by omega)
      rw [show (y - c + (c - m)) % 30 = (y - m) % 30 by omega] at hi2
      obtain ⟨e1, e2, n2, s2, k1, k2, k3, k4, k5⟩ := hi2
      rw [J_cl (by omega), J_cl (by omega), e1, e2]
      refine eqk rfl (hK _ _ _ _ _ _ _ ?_ ?_)
      · rw [k4, k5]; exact Rh.mk' k1 k2 k3
      · refine ⟨y - m, c - m, by omega, by omega, by omega, rfl, rfl, rfl, fun i hi3 => ?_⟩
        have := hi i (by omega)
        rw [show (y - m - (c - m) + i) % 30 = (y - c + i) % 30 by omega]
        exact this
    · refine ⟨hV, ?_⟩
      refine in_good (a := 1) (b := 30) rfl rfl (by omega) (by omega) ⟨fun _ => ?_, fun q => absurd q (by decide)⟩
      refine br_f (nI_ge q (by omega)) ?_
      exact eqk rfl (hK _ _ _ _ _ _ _ hR hP')
  · refine rg_bad (a := 1) (b := 30) rfl rfl hx ⟨hV, ?_⟩
    refine in_bad (a := 1) (b := 30) rfl rfl hx ⟨fun q => absurd rfl q, fun _ => ?_⟩
    exact eqk rfl (hK _ _ _ _ _ _ _ hR hP')
