/-! ===== tilings asked for, and who strikes a beat ===== -/
theorem tk_mem {f : Nat → List Nat} {y : Nat} : ∀ (m b : Nat), y ∈ tk f m b → ∃ j, y ∈ f j
  | 0, _, h => by cases h
  | m + 1, b, h => by
    have h' : y ∈ f b ++ tk f m (b + 1) := h
    rcases List.mem_append.mp h' with q | q
    · exact ⟨b, q⟩
    · exact tk_mem m (b + 1) q
/-- each beat is struck by a copy -/
def Cvr (n r y : Nat) : Prop := y < 2 ^ n ∧ ∀ b, b < n → ∃ t, t < n ∧ y.testBit t = true ∧ (mv n r t).testBit b = true
theorem tcov_ok {n r : Nat} (h0 : 0 < n) : ∀ (D c sh : Nat), c < 2 ^ n → sh < 2 ^ n → (∀ b, b < n → c.testBit b = true → ∃ t, t < n ∧ sh.testBit t = true ∧ (mv n r t).testBit b = true) → ∀ y, y ∈ tcov n r D c sh → Cvr n r y
  | 0, _, _, _, _, _, y, h => by cases h
  | D + 1, c, sh, hc, hsh, hcov, y, h => by
    have h' : y ∈ (if c = 2 ^ n - 1 then [sh] else tk (tkid n r (tcov n r D) c sh) n 0) := h
    by_cases q : c = 2 ^ n - 1
    · rw [if_pos q] at h'
      have e := List.mem_singleton.mp h'
      subst e
      refine ⟨hsh, fun b hb => hcov b hb ?_⟩
      rw [q, Nat.testBit_two_pow_sub_one]
      exact decide_eq_true hb
    · rw [if_neg q] at h'
      obtain ⟨j, hj⟩ := tk_mem _ _ h'
      unfold tkid at hj
      by_cases q1 : r.testBit j = true
      · rw [if_pos q1] at hj
        by_cases q2 : mv n r ((lz n c + n - j) % n) &&& c = 0
        · rw [if_pos q2] at hj
          have ht : (lz n c + n - j) % n < n := Nat.mod_lt _ h0
          refine tcov_ok h0 D _ _ (Nat.or_lt_two_pow hc (mv_lt _ _ _)) (Nat.or_lt_two_pow hsh (bit_lt ht)) (fun b hb hcb => ?_) y hj
          rw [Nat.testBit_or, Bool.or_eq_true] at hcb
          rcases hcb with g | g
          · obtain ⟨t, h1, h2, h3⟩ := hcov b hb g
            exact ⟨t, h1, by rw [Nat.testBit_or, h2, Bool.true_or], h3⟩
          · exact ⟨_, ht, by rw [Nat.testBit_or, Nat.testBit_two_pow]; simp, g⟩
        · rw [if_neg q2] at hj
          cases hj
      · rw [if_neg q1] at hj
        cases hj
theorem tls_ok {n r y : Nat} (h0 : 0 < n) (hr : r < 2 ^ n) (h : y ∈ tls n r) : Cvr n r y := by
  unfold tls at h
  split at h
  · cases h
  · refine tcov_ok h0 24 r 1 hr (Nat.one_lt_two_pow (by omega)) (fun b hb hrb => ⟨0, h0, by decide, ?_⟩) y h
    rw [mv_0 hr h0]
    exact hrb
theorem getD_mem : ∀ (l : List Nat) (k : Nat), k < l.length → l.getD k 0 ∈ l
  | [], k, h => absurd h (Nat.not_lt_zero _)
  | x :: l, 0, _ => List.mem_cons_self
  | x :: l, k + 1, h => List.mem_cons_of_mem _ (getD_mem l k (Nat.lt_of_succ_lt_succ h))
theorem tok_mem {n r i : Nat} {f : Nat → Int32} (h0 : 0 < n) (hr : r < 2 ^ n) (h : Tok n r f) (hi : i < (tls n r).length) : ∃ y, f i = nI y ∧ Cvr n r y := by
  have h1 := pm_all h.2 (fun x => (tls n r).any (fun y => decide (x = nI y))) (fun k hk => by
    refine List.any_eq_true.mpr ⟨(tls n r).getD k 0, ?_, decide_eq_true rfl⟩
    exact getD_mem _ k hk) i hi
  obtain ⟨y, hy, e⟩ := List.any_eq_true.mp h1
  exact ⟨y, of_decide_eq_true e, tls_ok h0 hr hy⟩
theorem sp_at {m i : Nat} {f : Nat → Int32} {Q : Int32 → Prop} (hi : i < m) (hm : m ≤ 2187) (h : Q (f i)) : wp_X8_at 2187 (nI m) f (nI i) Q := by
  unfold wp_X8_at wp_X8_at_j31
  refine br_f (nI_pos (by omega)) (br_f (nI_ge hi (by omega)) (br_t (nI_lt (a := i) (b := 2187) (by omega) (by omega)) ⟨vp_in_nI (by omega) (by omega), ?_⟩))
  rw [J_cl (by omega)]
  exact h
theorem br4 {y : Int32} {k : Nat} {A B C D : Prop} (e : y = nI k) (hk : k ≤ 2) (h0 : k = 0 → A) (h1 : k = 1 → B) (h2 : k = 2 → C) : (y = 0 → A) ∧ (y = 1 → B) ∧ (y = 2 → C) ∧ (y.toInt < 0 ∨ 2 < y.toInt → D) := by
  subst e
  refine ⟨fun q => h0 ((nI_eq (b := 0) (by omega) (by omega)).mp q), fun q => h1 ((nI_eq (b := 1) (by omega) (by omega)).mp q), fun q => h2 ((nI_eq (b := 2) (by omega) (by omega)).mp q), fun q => ?_⟩
  rw [tI (by omega)] at q
  omega
theorem br4F {y : Int32} {A B C D : Prop} (h : y.toInt < 0 ∨ 2 < y.toInt) (hD : D) : (y = 0 → A) ∧ (y = 1 → B) ∧ (y = 2 → C) ∧ (y.toInt < 0 ∨ 2 < y.toInt → D) := by
  refine ⟨fun q => ?_, fun q => ?_, fun q => ?_, fun _ => hD⟩
  · rw [q] at h; exact absurd h (by decide)
  · rw [q] at h; exact absurd h (by decide)
  · rw [q] at h; exact absurd h (by decide)
theorem cs_tiling {xb xr mb mr x y sc cnt bt rt mcnt mbt mrt : Int32} {f gs mf ma mb2 mc : Nat → Int32} {V W : Prop} {K : Int32 → Int32 → Int32 → Int32 → (Nat → Int32) → (Nat → Int32) → Int32 → Int32 → Int32 → (Nat → Int32) → (Nat → Int32) → (Nat → Int32) → (Nat → Int32) → Prop} (hR : Rh xb xr mb mr) (hT : Tc 2187 cnt bt rt f) (hM : Tm mcnt mbt mrt mf) (hV : V) (hW : W) (hK : ∀ a1 a2 a3 a4 a5 a6 b1 b2 b3 b4 b5 b6 b7, Tc 2187 a2 a3 a4 a5 → Tm b1 b2 b3 b4 → K a1 a2 a3 a4 a5 a6 b1 b2 b3 b4 b5 b6 b7) : wp_X9_tiling xb xr sc cnt bt rt f gs x y fun r a1 a2 a3 a4 a5 a6 => V ∧ W ∧ wp_X10_tiling mb mr mcnt mbt mrt mf ma mb2 mc x y fun r2 b1 b2 b3 b4 b5 b6 b7 => (r = r2 → K a1 a2 a3 a4 a5 a6 b1 b2 b3 b4 b5 b6 b7) ∧ (¬ r = r2 → False) := by
  obtain ⟨n, s, h0, hn, hs, rfl, rfl, rfl, rfl⟩ := hR
  have hp : 2 ^ n ≤ 2 ^ 24 := Nat.pow_le_pow_right (by omega) hn
  have hlen := tls_len h0 hn hs
  unfold wp_X9_tiling wp_X9_tiling_j23 wp_X10_tiling wp_X10_tiling_j61
  have hTm : ∀ f2, Tok n s f2 → Tm (nI (tls n s).length) (nI n) (nI s) f2 := fun f2 ht => Or.inr ⟨n, s, h0, hn, hs, rfl, rfl, rfl, ht⟩
  have hTc : ∀ f2, ((tls n s).length ≤ 2187 → Tok n s f2) → Tc 2187 (nI (tls n s).length) (nI n) (nI s) f2 := fun f2 ht => Or.inr ⟨n, s, h0, hn, hs, rfl, rfl, by rw [Nat.min_eq_right hlen], ht⟩
  rcases rg x 0 (2 ^ 31) with ⟨i, rfl, h1, h2, h3⟩ | hx
  · refine br_f (nI_pos h3) ?_
    refine sp_of h0 hn hs (by omega) hT (fun sc2 f2 gs2 ht2 => ?_)
    rw [Nat.min_eq_right hlen]
    have ht := ht2 hlen
    refine b_lt h3 (by omega) (fun q => ?_) (fun q => ?_)
    · refine sp_at q hlen ?_
      obtain ⟨y2, ey, hcv⟩ := tok_mem h0 hs ht q
      have hy2 := hcv.1
      rw [ey]
      have fin : ∀ (r1 : Int32) (k : Nat), y = nI k → k ≤ 2 → r1 = (if k = 0 then nI y2 else if k = 1 then nI (bc y2) else nI (pd n y2)) → V ∧ W ∧ wp_X10_isTiling (nI n) (nI s) mcnt mbt mrt mf ma mb2 mc (nI i) fun (r1' : Int32) (u2 : Int32) (u3 : Int32) (u4 : Int32) (u5 : (Nat → Int32)) (u6 : (Nat → Int32)) (u7 : (Nat → Int32)) (u8 : (Nat → Int32)) => (¬ r1' = 0 → (wp_X10_in (y.toInt64) 0 2 fun (r10 : Int32) => (¬ r10 = 0 → (vp_in (nI i) 8192 ∧ ∀ x12 : Int32, x12 = (u5 (nI i : Int32).toNatClampNeg) → (¬ y = 0 → ((¬ y = 1 → (wp_X10_periodOf x12 (nI n) fun (r15 : Int32) => (r1 = r15 → K sc2 (nI (tls n s).length) (nI n) (nI s) f2 gs2 u2 u3 u4 u5 u6 u7 u8) ∧ (¬ r1 = r15 → False))) ∧ (y = 1 → (wp_X10_bits x12 fun (r16 : Int32) => (r1 = r16 → K sc2 (nI (tls n s).length) (nI n) (nI s) f2 gs2 u2 u3 u4 u5 u6 u7 u8) ∧ (¬ r1 = r16 → False))))) ∧ (y = 0 → ((r1 = x12 → K sc2 (nI (tls n s).length) (nI n) (nI s) f2 gs2 u2 u3 u4 u5 u6 u7 u8) ∧ (¬ r1 = x12 → False))))) ∧ (r10 = 0 → ((r1 = -1000000002 → K sc2 (nI (tls n s).length) (nI n) (nI s) f2 gs2 u2 u3 u4 u5 u6 u7 u8) ∧ (¬ r1 = -1000000002 → False))))) ∧ (r1' = 0 → ((r1 = -1000000001 → K sc2 (nI (tls n s).length) (nI n) (nI s) f2 gs2 u2 u3 u4 u5 u6 u7 u8) ∧ (¬ r1 = -1000000001 → False))) := by
        intro r1 k ek hk er
        subst ek
        have htk := tI (show k < 2 ^ 31 by omega)
        refine ⟨hV, hW, ?_⟩
        refine sp_isTilingT h0 hn hs hM q (fun f3 a b c ht3 => ⟨fun _ => ?_, fun q => absurd q (by decide)⟩)
        refine in_good (a := 0) (b := 2) rfl rfl (by omega) (by omega) ⟨fun _ => ⟨vp_in_nI (by omega) (by omega), ?_⟩, fun q => absurd q (by decide)⟩
        rw [J_cl h3, ← tok_eq ht3 ht i q, ey]
        rintro x12 rfl
        have hKK := hK sc2 _ _ _ f2 gs2 _ _ _ f3 a b c (hTc f2 ht2) (hTm f3 ht3)
        refine b_ne (b := 0) (by omega) (by omega) (fun k0 => ?_) (fun k0 => ?_)
        · rw [if_neg k0] at er
          refine b_ne (b := 1) (by omega) (by omega) (fun k1 => ?_) (fun k1 => ?_)
          · rw [if_neg k1] at er
            exact sp_periodOf h0 hn hy2 (eqk er hKK)
          · rw [if_pos k1] at er
            exact sp_bits (by omega) (eqk er hKK)
        · rw [if_pos k0] at er
          exact eqk er hKK
      rcases rg y 0 2 with ⟨k, ek, g1, g2, g3⟩ | hy
      · refine br4 ek g2 (fun e => ?_) (fun e => ?_) (fun e => ?_)
        · exact fin _ k ek g2 (by rw [if_pos e])
        · exact sp_bitCount (by omega) (fin _ k ek g2 (by subst e; rfl))
        · exact sp_period h0 hn hy2 (fin _ k ek g2 (by subst e; rfl))
      · refine br4F hy ⟨hV, hW, ?_⟩
        refine sp_isTilingT h0 hn hs hM q (fun f3 a b c ht3 => ⟨fun _ => ?_, fun q => absurd q (by decide)⟩)
        refine in_bad (a := 0) (b := 2) rfl rfl hy ⟨fun q => absurd rfl q, fun _ => ?_⟩
        exact eqk rfl (hK sc2 _ _ _ f2 gs2 _ _ _ f3 a b c (hTc f2 ht2) (hTm f3 ht3))
    · refine ⟨hV, hW, ?_⟩
      refine sp_isTilingF h0 hn hs hM (Or.inr (nI_le q h3)) (fun f3 a b c ht3 => ⟨fun q => absurd rfl q, fun _ => ?_⟩)
      exact eqk rfl (hK sc2 _ _ _ f2 gs2 _ _ _ f3 a b c (hTc f2 ht2) (hTm f3 ht3))
  · have hx0 : x < 0 := by
      rw [fa_lt]
      have e0 : (0 : Int32).toInt = 0 := rfl
      have := Int32.toInt_lt x
      omega
    refine br_t hx0 ⟨hV, hW, ?_⟩
    refine sp_isTilingF h0 hn hs hM (Or.inl hx0) (fun f3 a b c ht3 => ⟨fun q => absurd rfl q, fun _ => ?_⟩)
    exact eqk rfl (hK _ _ _ _ _ _ _ _ _ f3 a b c hT (hTm f3 ht3))
theorem cs_who {xb xr mb mr x y sc cnt bt rt mcnt mbt mrt : Int32} {f gs mf ma mb2 mc : Nat → Int32} {V W : Prop} {K : Int32 → Int32 → Int32 → Int32 → (Nat → Int32) → (Nat → Int32) → Int32 → Int32 → Int32 → (Nat → Int32) → (Nat → Int32) → (Nat → Int32) → (Nat → Int32) → Prop} (hR : Rh xb xr mb mr) (hT : Tc 2187 cnt bt rt f) (hM : Tm mcnt mbt mrt mf) (hV : V) (hW : W) (hK : ∀ a1 a2 a3 a4 a5 a6 b1 b2 b3 b4 b5 b6 b7, Tc 2187 a2 a3 a4 a5 → Tm b1 b2 b3 b4 → K a1 a2 a3 a4 a5 a6 b1 b2 b3 b4 b5 b6 b7) : wp_X9_who xb xr sc cnt bt rt f gs x y fun r a1 a2 a3 a4 a5 a6 => V ∧ W ∧ wp_X10_who mb mr mcnt mbt mrt mf ma mb2 mc x y fun r2 b1 b2 b3 b4 b5 b6 b7 => (r = r2 → K a1 a2 a3 a4 a5 a6 b1 b2 b3 b4 b5 b6 b7) ∧ (¬ r = r2 → False) := by
  obtain ⟨n, s, h0, hn, hs, rfl, rfl, rfl, rfl⟩ := hR
  have hp : 2 ^ n ≤ 2 ^ 24 := Nat.pow_le_pow_right (by omega) hn
  have hlen := tls_len h0 hn hs
  unfold wp_X9_who wp_X9_who_j31 wp_X9_who_j68 wp_X10_who wp_X10_who_j16
  have hTm : ∀ f2, Tok n s f2 → Tm (nI (tls n s).length) (nI n) (nI s) f2 := fun f2 ht => Or.inr ⟨n, s, h0, hn, hs, rfl, rfl, rfl, ht⟩
  have hTc : ∀ f2, ((tls n s).length ≤ 2187 → Tok n s f2) → Tc 2187 (nI (tls n s).length) (nI n) (nI s) f2 := fun f2 ht => Or.inr ⟨n, s, h0, hn, hs, rfl, rfl, by rw [Nat.min_eq_right hlen], ht⟩
  have hxn : x.toInt < 0 → x < 0 := fun q => by rw [fa_lt]; exact q
  rcases rg y 0 (n - 1) with ⟨j, rfl, g1, g2, g3⟩ | hy
  · have hj : j < n := by omega
    refine sp_isBeat9T hj (by omega) ⟨fun q => absurd q (by decide), fun _ => ?_⟩
    rcases rg x 0 (2 ^ 31) with ⟨i, rfl, h1, h2, h3⟩ | hx
    · refine br_f (nI_pos h3) ?_
      refine sp_of h0 hn hs (by omega) hT (fun sc2 f2 gs2 ht2 => ?_)
      rw [Nat.min_eq_right hlen]
      have ht := ht2 hlen
      refine b_lt h3 (by omega) (fun q => ?_) (fun q => ?_)
      · refine sp_at q hlen (sp_tts h0 hn hs hj ?_)
        obtain ⟨y2, ey, hy2, hcv⟩ := tok_mem h0 hs ht q
        rw [ey, fa_and]
        rintro x14 rfl
        have hal : y2 &&& ts n s j < 2 ^ n := Nat.and_lt_two_pow _ (ts_lt n s j)
        obtain ⟨t0, ht0, hc0⟩ := hcv j hj
        obtain ⟨t, htn, ⟨hc1, hc2⟩, hno⟩ := fb_first (p := fun t => y2.testBit t = true ∧ (mv n s t).testBit j = true) ⟨t0, ht0, hc0⟩
        have hb1 : (y2 &&& ts n s j).testBit t = true := by rw [Nat.testBit_and, ts_tb h0 hs hj htn, hc1, hc2]; rfl
        have hb2 : ∀ k, k < t → (y2 &&& ts n s j).testBit k = false := by
          intro k hk
          rw [Nat.testBit_and, ts_tb h0 hs hj (by omega)]
          cases a1 : y2.testBit k
          · rfl
          · cases a2 : (mv n s k).testBit j
            · rfl
            · exact absurd ⟨a1, a2⟩ (hno k hk)
        have hne : 0 < y2 &&& ts n s j := by
          rcases Nat.eq_zero_or_pos (y2 &&& ts n s j) with q0 | q0
          · rw [q0, Nat.zero_testBit] at hb1
            exact absurd hb1 (by decide)
          · exact q0
        refine ⟨fun _ => ?_, fun q0 => absurd q0 (nI_ne0 hne (by omega))⟩
        refine sp_ntz (by omega) hb1 hb2 ⟨hV, hW, ?_⟩
        refine sp_isTilingT h0 hn hs hM q (fun f3 a b c ht3 => ⟨fun q => absurd q (by decide), fun _ => ?_⟩)
        refine sp_isBeat10T hj (by omega) ⟨fun _ => ?_, fun q => absurd q (by decide)⟩
        have e3 : f3 i = nI y2 := by rw [← tok_eq ht3 ht i q, ey]
        refine lp_up (P := fun k u => wp_X10_who_h21 (nI n) (nI s) _ k (nI i) (nI j) (nI u) (nI (tls n s).length) (nI n) (nI s) f3 a b c) (a := 0) (n := t) (by omega) ⟨1, ?_⟩ (fun u _ hu ⟨k, hk⟩ => ⟨k + 1, ?_⟩)
        · unfold wp_X10_who_h21
          refine ⟨vp_in_nI (by omega) (by omega), ?_⟩
          rw [J_cl h3, e3]
          refine sp_has (by omega) (by omega) ?_
          rw [hc1]
          refine ⟨fun q => absurd q (by decide), fun _ => ?_⟩
          refine sp_moved10 h0 hn hs (by omega) ?_
          rw [Nat.mod_eq_of_lt htn]
          have hml := mv_lt n s t
          refine sp_has (by omega) (by omega) ?_
          rw [hc2]
          refine ⟨fun _ => ?_, fun q => absurd q (by decide)⟩
          exact eqk rfl (hK sc2 _ _ _ f2 gs2 _ _ _ f3 a b c (hTc f2 ht2) (hTm f3 ht3))
        · unfold wp_X10_who_h21
          refine ⟨vp_in_nI (by omega) (by omega), ?_⟩
          rw [J_cl h3, e3]
          refine sp_has (by omega) (by omega) ?_
          unfold wp_X10_who_j53
          rw [nI_1]
          cases a1 : y2.testBit u
          · refine ⟨fun _ => ?_, fun q => absurd rfl q⟩
            rintro x1 rfl
            exact hk
          · refine ⟨fun q => absurd q (by decide), fun _ => ?_⟩
            refine sp_moved10 h0 hn hs (by omega) ?_
            rw [Nat.mod_eq_of_lt (show u < n by omega)]
            have hml := mv_lt n s u
            refine sp_has (by omega) (by omega) ?_
            cases a2 : (mv n s u).testBit j
            · refine ⟨fun q => absurd rfl q, fun _ => ?_⟩
              rintro x1 rfl
              exact hk
            · exact absurd ⟨a1, a2⟩ (hno u hu)
      · refine ⟨hV, hW, ?_⟩
        refine sp_isTilingF h0 hn hs hM (Or.inr (nI_le q h3)) (fun f3 a b c ht3 => ⟨fun _ => ?_, fun q => absurd rfl q⟩)
        exact eqk rfl (hK sc2 _ _ _ f2 gs2 _ _ _ f3 a b c (hTc f2 ht2) (hTm f3 ht3))
    · have hx0 : x < 0 := by
        have := Int32.toInt_lt x
        exact hxn (by omega)
      refine br_t hx0 ⟨hV, hW, ?_⟩
      refine sp_isTilingF h0 hn hs hM (Or.inl hx0) (fun f3 a b c ht3 => ⟨fun _ => ?_, fun q => absurd rfl q⟩)
      exact eqk rfl (hK _ _ _ _ _ _ _ _ _ f3 a b c hT (hTm f3 ht3))
  · have hy2 : y < 0 ∨ nI n ≤ y := by
      rcases hy with q | q
      · left; rw [fa_lt]; exact q
      · right; rw [fa_le, tI (by omega)]; omega
    refine sp_isBeat9F hy2 ⟨fun _ => ⟨hV, hW, ?_⟩, fun q => absurd rfl q⟩
    by_cases hx : x < 0 ∨ nI (tls n s).length ≤ x
    · refine sp_isTilingF h0 hn hs hM hx (fun f3 a b c ht3 => ⟨fun _ => ?_, fun q => absurd rfl q⟩)
      exact eqk rfl (hK _ _ _ _ _ _ _ _ _ f3 a b c hT (hTm f3 ht3))
    · rcases rg x 0 (2 ^ 31) with ⟨i, rfl, h1, h2, h3⟩ | hx2
      · have hi : i < (tls n s).length := by
          rcases Nat.lt_or_ge i (tls n s).length with q | q
          · exact q
          · exact absurd (Or.inr (nI_le q h3)) hx
        refine sp_isTilingT h0 hn hs hM hi (fun f3 a b c ht3 => ⟨fun q => absurd q (by decide), fun _ => ?_⟩)
        refine sp_isBeat10F h0 (by omega) hy2 ⟨fun q => absurd rfl q, fun _ => ?_⟩
        exact eqk rfl (hK _ _ _ _ _ _ _ _ _ f3 a b c hT (hTm f3 ht3))
      · exfalso
        apply hx
        left
        have := Int32.toInt_lt x
        exact hxn (by omega)
