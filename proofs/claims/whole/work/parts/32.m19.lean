/-! ===== deeds ===== -/
theorem bit_lt {n j : Nat} (h : j < n) : 2 ^ j < 2 ^ n := Nat.pow_lt_pow_right (by omega) h
theorem tI {j : Nat} (h : j < 2 ^ 31) : (nI j).toInt = (j : Int) := nI_toInt h
theorem ti_n {n : Nat} (h : n < 2 ^ 31) : ((nI n).toInt64).toInt = (n : Int) := by rw [Int32.toInt_toInt64, nI_toInt h]
theorem cs_turn {B : Nat} {xb xr mb mr pn pc mu x : Int32} {fb fr gb gr : Nat → Int32} {V : Prop} {K : Int32 → Int32 → Int32 → Int32 → (Nat → Int32) → (Nat → Int32) → Int32 → Int32 → (Nat → Int32) → (Nat → Int32) → Prop} (hR : Rh xb xr mb mr) (hP : Ps (B + 1) pn pc fb fr mu gb gr) (hV : V) (hK : ∀ a b c d e f g h i j, Rh a b mb g → Ps B c d e f h i j → K a b c d e f g h i j) : wp_X9_turn xb xr pn pc fb fr x fun r a b c d e f => V ∧ wp_X10_turn mb mr mu gb gr x fun r2 g h i j => (r = r2 → K a b c d e f g h i j) ∧ (¬ r = r2 → False) := by
  have hR' := hR
  obtain ⟨n, s, h0, hn, hs, rfl, rfl, rfl, rfl⟩ := hR
  unfold wp_X9_turn wp_X10_turn wp_X9_turn_j10 wp_X10_turn_j33
  rcases rg x 0 23 with ⟨j, rfl, h1, h2, h3⟩ | hx
  · have ht := tI h3
    refine rg_good (a := 0) (b := 23) rfl rfl (by omega) (by omega) ?_
    refine sp_moved h0 hn hs h3 (sp_change hP ⟨hV, ?_⟩)
    refine in_good (a := 0) (b := 23) rfl rfl (by omega) (by omega) ⟨fun q => absurd q (by decide), fun _ => ?_⟩
    refine sp_moved10 h0 hn hs h3 (sp_becomes h0 hn hs hP (fun v1 v2 v3 hP2 => ?_))
    exact eqk rfl (hK _ _ _ _ _ _ _ _ _ _ (Rh.mk' h0 hn (mv_lt _ _ _)) hP2)
  · refine rg_bad (a := 0) (b := 23) rfl rfl hx ⟨hV, ?_⟩
    refine in_bad (a := 0) (b := 23) rfl rfl hx ⟨fun _ => ?_, fun q => absurd rfl q⟩
    exact eqk rfl (hK _ _ _ _ _ _ _ _ _ _ hR' hP.dn)
theorem cs_even {B : Nat} {xb xr mb mr pn pc mu x : Int32} {fb fr gb gr : Nat → Int32} {V : Prop} {K : Int32 → Int32 → Int32 → Int32 → (Nat → Int32) → (Nat → Int32) → Int32 → Int32 → (Nat → Int32) → (Nat → Int32) → Prop} (hR : Rh xb xr mb mr) (hP : Ps (B + 1) pn pc fb fr mu gb gr) (hV : V) (hK : ∀ a b c d e f g h i j, Rh a b mb g → Ps B c d e f h i j → K a b c d e f g h i j) : wp_X9_even xb xr pn pc fb fr x fun r a b c d e f => V ∧ wp_X10_even mb mr mu gb gr x fun r2 g h i j => (r = r2 → K a b c d e f g h i j) ∧ (¬ r = r2 → False) := by
  have hR' := hR
  obtain ⟨n, s, h0, hn, hs, rfl, rfl, rfl, rfl⟩ := hR
  unfold wp_X9_even wp_X10_even wp_X9_even_j12 wp_X10_even_j31
  rcases rg x 0 n with ⟨j, rfl, h1, h2, h3⟩ | hx
  · have ht := tI h3
    refine rg_good (a := 0) (b := n) rfl (tI (by omega)) (by omega) (by omega) ?_
    refine sp_evenly h0 hn h2 (sp_change hP ⟨hV, ?_⟩)
    refine in_good (a := 0) (b := n) rfl (ti_n (by omega)) (by omega) (by omega) ⟨fun q => absurd q (by decide), fun _ => ?_⟩
    refine sp_evenOf h0 hn h2 (sp_becomes h0 hn hs hP (fun v1 v2 v3 hP2 => ?_))
    exact eqk rfl (hK _ _ _ _ _ _ _ _ _ _ (Rh.mk' h0 hn (evf_lt _ _ _)) hP2)
  · refine rg_bad (a := 0) (b := n) rfl (tI (by omega)) hx ⟨hV, ?_⟩
    refine in_bad (a := 0) (b := n) rfl (ti_n (by omega)) hx ⟨fun _ => ?_, fun q => absurd rfl q⟩
    exact eqk rfl (hK _ _ _ _ _ _ _ _ _ _ hR' hP.dn)
theorem full_xor {n s : Nat} (hs : s < 2 ^ n) : (2 ^ n - 1) ^^^ s < 2 ^ n := Nat.xor_lt_two_pow (by have := Nat.two_pow_pos n; omega) hs
theorem sp_over10 {B n s : Nat} {pn pc mu : Int32} {fb fr gb gr : Nat → Int32} {Q : Int32 → Int32 → Int32 → (Nat → Int32) → (Nat → Int32) → Prop} (h0 : 0 < n) (hn : n ≤ 24) (hs : s < 2 ^ n) (h : Ps (B + 1) pn pc fb fr mu gb gr) (hQ : ∀ v1 v2 v3, Ps B (An pn) (Ac pc) (upd fb (Ap pn) (nI n)) (upd fr (Ap pn) (nI s)) v1 v2 v3 → Q (nI ((2 ^ n - 1) ^^^ s)) (nI ((2 ^ n - 1) ^^^ s)) v1 v2 v3) : wp_X10_over (nI n) (nI s) mu gb gr Q := by
  unfold wp_X10_over
  refine sp_full10 (by omega) ?_
  rw [nx_xor, Nat.xor_comm]
  exact sp_becomes h0 hn hs h hQ
theorem sp_behind10 {B n s : Nat} {pn pc mu : Int32} {fb fr gb gr : Nat → Int32} {Q : Int32 → Int32 → Int32 → (Nat → Int32) → (Nat → Int32) → Prop} (h0 : 0 < n) (hn : n ≤ 24) (hs : s < 2 ^ n) (h : Ps (B + 1) pn pc fb fr mu gb gr) (hQ : ∀ v1 v2 v3, Ps B (An pn) (Ac pc) (upd fb (Ap pn) (nI n)) (upd fr (Ap pn) (nI s)) v1 v2 v3 → Q (nI (bh n s)) (nI (bh n s)) v1 v2 v3) : wp_X10_behind (nI n) (nI s) mu gb gr Q := by
  unfold wp_X10_behind
  refine sp_behindOf h0 hn hs ?_
  exact sp_becomes h0 hn hs h hQ
theorem bh_lt {n s : Nat} (h0 : 0 < n) : bh n s < 2 ^ n := orf_lt (fun k _ => Nat.mod_lt _ h0)
theorem cs_over {B : Nat} {xb xr mb mr pn pc mu : Int32} {fb fr gb gr : Nat → Int32} {K : Int32 → Int32 → Int32 → Int32 → (Nat → Int32) → (Nat → Int32) → Int32 → Int32 → (Nat → Int32) → (Nat → Int32) → Prop} (hR : Rh xb xr mb mr) (hP : Ps (B + 1) pn pc fb fr mu gb gr) (hK : ∀ a b c d e f g h i j, Rh a b mb g → Ps B c d e f h i j → K a b c d e f g h i j) : wp_X9_over xb xr pn pc fb fr fun r a b c d e f => wp_X10_over mb mr mu gb gr fun r2 g h i j => (r = r2 → K a b c d e f g h i j) ∧ (¬ r = r2 → False) := by
  obtain ⟨n, s, h0, hn, hs, rfl, rfl, rfl, rfl⟩ := hR
  unfold wp_X9_over
  refine sp_inverted hn hs (sp_change hP ?_)
  exact sp_over10 h0 hn hs hP (fun v1 v2 v3 hP2 => eqk rfl (hK _ _ _ _ _ _ _ _ _ _ (Rh.mk' h0 hn (full_xor hs)) hP2))
theorem cs_behind {B : Nat} {xb xr mb mr pn pc mu : Int32} {fb fr gb gr : Nat → Int32} {K : Int32 → Int32 → Int32 → Int32 → (Nat → Int32) → (Nat → Int32) → Int32 → Int32 → (Nat → Int32) → (Nat → Int32) → Prop} (hR : Rh xb xr mb mr) (hP : Ps (B + 1) pn pc fb fr mu gb gr) (hK : ∀ a b c d e f g h i j, Rh a b mb g → Ps B c d e f h i j → K a b c d e f g h i j) : wp_X9_behind xb xr pn pc fb fr fun r a b c d e f => wp_X10_behind mb mr mu gb gr fun r2 g h i j => (r = r2 → K a b c d e f g h i j) ∧ (¬ r = r2 → False) := by
  obtain ⟨n, s, h0, hn, hs, rfl, rfl, rfl, rfl⟩ := hR
  unfold wp_X9_behind
  refine sp_mirrored h0 hn hs (sp_change hP ?_)
  exact sp_behind10 h0 hn hs hP (fun v1 v2 v3 hP2 => eqk rfl (hK _ _ _ _ _ _ _ _ _ _ (Rh.mk' h0 hn (bh_lt h0)) hP2))
theorem cs_strike {B : Nat} {xb xr mb mr pn pc mu x : Int32} {fb fr gb gr : Nat → Int32} {V : Prop} {K : Int32 → Int32 → Int32 → Int32 → (Nat → Int32) → (Nat → Int32) → Int32 → Int32 → (Nat → Int32) → (Nat → Int32) → Prop} (hR : Rh xb xr mb mr) (hP : Ps (B + 1) pn pc fb fr mu gb gr) (hV : V) (hK : ∀ a b c d e f g h i j, Rh a b mb g → Ps B c d e f h i j → K a b c d e f g h i j) : wp_X9_strike xb xr pn pc fb fr x fun r a b c d e f => V ∧ wp_X10_strike mb mr mu gb gr x fun r2 g h i j => (r = r2 → K a b c d e f g h i j) ∧ (¬ r = r2 → False) := by
  have hR' := hR
  obtain ⟨n, s, h0, hn, hs, rfl, rfl, rfl, rfl⟩ := hR
  have hp : 2 ^ n ≤ 2 ^ 24 := Nat.pow_le_pow_right (by omega) hn
  unfold wp_X9_strike wp_X10_strike wp_X10_strike_j37
  rcases rg x 0 (n - 1) with ⟨j, rfl, h1, h2, h3⟩ | hx
  · have hj : j < n := by omega
    have hx := Nat.xor_lt_two_pow hs (bit_lt hj)
    refine sp_isBeat9T hj (by omega) ⟨fun _ => ?_, fun q => absurd q (by decide)⟩
    rw [J_shl1 (by omega), nx_xor]
    refine sp_change hP (sp_bit (by omega) (by omega) ⟨hV, ?_⟩)
    refine sp_isBeat10T hj (by omega) ⟨fun _ => ?_, fun q => absurd q (by decide)⟩
    refine sp_becomes h0 hn hs hP (fun v1 v2 v3 hP2 => ?_)
    refine sp_has (by omega) (by omega) ?_
    cases hb : (s ^^^ 2 ^ j).testBit j
    · exact ⟨fun _ => eqk rfl (hK _ _ _ _ _ _ _ _ _ _ (Rh.mk' h0 hn hx) hP2), fun q => absurd rfl q⟩
    · exact ⟨fun q => absurd q (by decide), fun _ => eqk rfl (hK _ _ _ _ _ _ _ _ _ _ (Rh.mk' h0 hn hx) hP2)⟩
  · have hx2 : x < 0 ∨ nI n ≤ x := by
      rcases hx with q | q
      · left; rw [fa_lt]; exact q
      · right; rw [fa_le, tI (by omega)]; omega
    refine sp_isBeat9F hx2 ⟨fun q => absurd rfl q, fun _ => ⟨hV, ?_⟩⟩
    refine sp_isBeat10F h0 (by omega) hx2 ⟨fun q => absurd rfl q, fun _ => ?_⟩
    exact eqk rfl (hK _ _ _ _ _ _ _ _ _ _ hR' hP.dn)
