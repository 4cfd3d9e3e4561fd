/-! ===== necklaces, kin, steady ===== -/
theorem kbt_b : (List.range 25).all (fun n => (List.range 25).all (fun k => decide (0 < n → k ≤ n → kbt n k n / n + mir n k < 2 ^ 30))) = true := by decide +kernel
theorem kbt_lt {n k : Nat} (h0 : 0 < n) (hn : n ≤ 24) (hk : k ≤ n) : kbt n k n / n + mir n k < 2 ^ 30 := by
  have h1 := List.all_eq_true.mp kbt_b n (List.mem_range.mpr (by omega))
  have h2 := List.all_eq_true.mp h1 k (List.mem_range.mpr (by omega))
  exact of_decide_eq_true h2 h0 hk
theorem rg_bad2 {x hi : Int32} {b : Int} {J A : Prop} (h2 : hi.toInt = b) (h : x.toInt < 0 ∨ b < x.toInt) (hJ : J) : (x < 0 → J) ∧ (¬ x < 0 → ((hi < x → J) ∧ (¬ hi < x → A))) := by
  refine ⟨fun _ => hJ, fun q => ⟨fun _ => hJ, fun q2 => ?_⟩⟩
  rw [fa_lt] at q q2
  have e0 : (0 : Int32).toInt = 0 := rfl
  omega
theorem rg_good2 {x hi : Int32} {b : Int} {J A : Prop} (h2 : hi.toInt = b) (h3 : 0 ≤ x.toInt) (h4 : x.toInt ≤ b) (hA : A) : (x < 0 → J) ∧ (¬ x < 0 → ((hi < x → J) ∧ (¬ hi < x → A))) := by
  have e0 : (0 : Int32).toInt = 0 := rfl
  refine ⟨fun q => ?_, fun q => ⟨fun q2 => ?_, fun _ => hA⟩⟩
  · rw [fa_lt] at q; omega
  · rw [fa_lt] at q2; omega
theorem cs_necklaces {xb xr mb mr x y : Int32} {V W K : Prop} (hR : Rh xb xr mb mr) (hV : V) (hW : W) (hK : K) : wp_X9_necklaces xb x y fun r => V ∧ W ∧ wp_X10_necklaces mb x y fun r2 => (r = r2 → K) ∧ (¬ r = r2 → False) := by
  obtain ⟨n, s, h0, hn, hs, rfl, rfl, rfl, rfl⟩ := hR
  unfold wp_X9_necklaces wp_X10_necklaces wp_X9_necklaces_j21 wp_X9_necklaces_j47 wp_X10_necklaces_j24 wp_X10_necklaces_j58
  rcases rg x 0 n with ⟨k, rfl, h1, h2, h3⟩ | hx
  · have ht := tI h3
    have hb := kbt_lt h0 hn h2
    refine rg_good2 (b := n) (tI (by omega)) (by omega) (by omega) ?_
    rcases rg y 0 1 with ⟨m, rfl, k1, k2, k3⟩ | hy
    · have ht2 := tI k3
      refine rg_good (a := 0) (b := 1) rfl rfl (by omega) (by omega) ?_
      refine b_ne (b := 0) (by omega) (by omega) (fun q => ?_) (fun q => ?_)
      · refine sp_turnedOrMirrored h0 hn h2 ⟨hV, hW, ?_⟩
        refine in_good (a := 0) (b := n) rfl (ti_n (by omega)) (by omega) (by omega) ⟨fun q => absurd q (by decide), fun _ => ?_⟩
        refine in_good (a := 0) (b := 1) rfl rfl (by omega) (by omega) ⟨fun _ => ?_, fun q => absurd q (by decide)⟩
        refine sp_necklacesOf h0 hn h2 ?_
        refine b_ne (b := 0) (by omega) (by omega) (fun _ => ?_) (fun q2 => by omega)
        refine sp_mirrored10 h0 hn h2 ⟨by decide, ?_⟩
        rw [lN_add, show (2 : Int64) = lN 2 from rfl, pk_lDiv (by omega) (by omega) (by omega), lN_i]
        exact eqk rfl hK
      · refine sp_turned h0 hn h2 ⟨hV, hW, ?_⟩
        refine in_good (a := 0) (b := n) rfl (ti_n (by omega)) (by omega) (by omega) ⟨fun q => absurd q (by decide), fun _ => ?_⟩
        refine in_good (a := 0) (b := 1) rfl rfl (by omega) (by omega) ⟨fun _ => ?_, fun q => absurd q (by decide)⟩
        refine sp_necklacesOf h0 hn h2 ?_
        refine b_ne (b := 0) (by omega) (by omega) (fun q2 => absurd q q2) (fun _ => ?_)
        rw [lN_i]
        exact eqk rfl hK
    · refine rg_bad (a := 0) (b := 1) rfl rfl hy ⟨hV, hW, ?_⟩
      refine in_good (a := 0) (b := n) rfl (ti_n (by omega)) (by omega) (by omega) ⟨fun q => absurd q (by decide), fun _ => ?_⟩
      exact in_bad (a := 0) (b := 1) rfl rfl hy ⟨fun q => absurd rfl q, fun _ => eqk rfl hK⟩
  · refine rg_bad2 (b := n) (tI (by omega)) hx ⟨hV, hW, ?_⟩
    exact in_bad (a := 0) (b := n) rfl (ti_n (by omega)) hx ⟨fun _ => eqk rfl hK, fun q => absurd rfl q⟩
def odd9 (q : Int64) : Nat → Int64
  | 0 => 1000000000
  | k + 1 => odd9 q k * q / 100
theorem cs_steady {x y : Int32} {V W K : Prop} (hV : V) (hW : W) (hK : K) : wp_X9_steady x y fun r => V ∧ W ∧ wp_X10_steady x y fun r2 => (r = r2 → K) ∧ (¬ r = r2 → False) := by
  unfold wp_X9_steady wp_X10_steady wp_X9_steady_j20 wp_X10_steady_j24
  rcases rg x 0 60 with ⟨k, rfl, h1, h2, h3⟩ | hx
  · have ht := tI h3
    refine rg_good2 (b := 60) rfl (by omega) (by omega) ?_
    rcases rg y 0 100 with ⟨m, rfl, k1, k2, k3⟩ | hy
    · have ht2 := tI k3
      refine rg_good (a := 0) (b := 100) rfl rfl (by omega) (by omega) ?_
      refine lp_up (P := fun z j => wp_X9_steady_h30 _ z (nI k) (nI m) (odd9 (nI m).toInt64 j) (nI j)) (a := 0) (n := k) (by omega) ⟨1, ?_⟩ (fun j _ hj ⟨z, hz⟩ => ⟨z + 1, ?_⟩)
      · unfold wp_X9_steady_h30
        refine br_t (nI_le (Nat.le_refl _) h3) ⟨hV, hW, ?_⟩
        refine in_good (a := 0) (b := 60) rfl rfl (by omega) (by omega) ⟨fun q => absurd q (by decide), fun _ => ?_⟩
        refine in_good (a := 0) (b := 100) rfl rfl (by omega) (by omega) ⟨fun _ => ?_, fun q => absurd q (by decide)⟩
        refine lp_up (P := fun z j => wp_X10_steady_h34 _ z (nI k) (nI m) (odd9 (nI m).toInt64 j) (nI j)) (a := 0) (n := k) (by omega) ⟨1, ?_⟩ (fun j _ hj ⟨z, hz⟩ => ⟨z + 1, ?_⟩)
        · unfold wp_X10_steady_h34
          exact br_t (nI_le (Nat.le_refl _) h3) (eqk rfl hK)
        · unfold wp_X10_steady_h34
          refine br_f (nI_ge hj h3) ⟨by decide, ?_⟩
          rintro x2 rfl
          rintro x3 rfl
          rw [nI_1]
          exact hz
      · unfold wp_X9_steady_h30
        refine br_f (nI_ge hj h3) ⟨by decide, ?_⟩
        rintro x2 rfl
        rintro x3 rfl
        rw [nI_1]
        exact hz
    · refine rg_bad (a := 0) (b := 100) rfl rfl hy ⟨hV, hW, ?_⟩
      refine in_good (a := 0) (b := 60) rfl rfl (by omega) (by omega) ⟨fun q => absurd q (by decide), fun _ => ?_⟩
      exact in_bad (a := 0) (b := 100) rfl rfl hy ⟨fun q => absurd rfl q, fun _ => eqk rfl hK⟩
  · refine rg_bad2 (b := 60) rfl hx ⟨hV, hW, ?_⟩
    exact in_bad (a := 0) (b := 60) rfl rfl hx ⟨fun _ => eqk rfl hK, fun q => absurd rfl q⟩
/-- a sign of kin -/
def kn (n a b w : Nat) : Nat := if nk n a = nk n b then w else 0
theorem kin_or : ∀ a b c d : Bool, nI (((0 ||| (if a then 1 else 0)) ||| (if b then 2 else 0)) ||| (if c then 4 else 0) ||| (if d then 8 else 0)) = nI ((((if a then 1 else 0) + (if b then 2 else 0)) + (if c then 4 else 0)) + (if d then 8 else 0)) := by decide
theorem b_eq9 {n a b w : Nat} {A : Int32 → Prop} (h1 : nk n a < 2 ^ 31) (h2 : nk n b < 2 ^ 31) (h : A (nI (kn n a b w))) (h0 : A 0 = A (nI 0)) : (¬ nI (nk n a) = nI (nk n b) → A 0) ∧ (nI (nk n a) = nI (nk n b) → A (nI w)) := by
  unfold kn at h
  refine ⟨fun q => ?_, fun q => ?_⟩
  · rw [if_neg (fun q2 => q (by rw [q2]))] at h
    exact h
  · rw [if_pos ((nI_eq h1 h2).mp q)] at h
    exact h
theorem b_mv {n a b w : Nat} {A : Int32 → Prop} (h : A (nI (kn n a b w))) : ((if nk n a = nk n b then (1 : Int32) else 0) = 0 → A 0) ∧ (¬ (if nk n a = nk n b then (1 : Int32) else 0) = 0 → A (nI w)) := by
  unfold kn at h
  by_cases q : nk n a = nk n b
  · rw [if_pos q] at h ⊢
    exact ⟨fun q2 => absurd q2 (by decide), fun _ => h⟩
  · rw [if_neg q] at h ⊢
    exact ⟨fun _ => h, fun q2 => absurd rfl q2⟩
theorem kn_sum (n s o : Nat) : nI (((0 ||| kn n s o 1) ||| kn n (bh n s) o 2) ||| kn n ((2 ^ n - 1) ^^^ s) o 4 ||| kn n (bh n ((2 ^ n - 1) ^^^ s)) o 8) = nI (((kn n s o 1 + kn n (bh n s) o 2) + kn n ((2 ^ n - 1) ^^^ s) o 4) + kn n (bh n ((2 ^ n - 1) ^^^ s)) o 8) := by
  have h := kin_or (decide (nk n s = nk n o)) (decide (nk n (bh n s) = nk n o)) (decide (nk n ((2 ^ n - 1) ^^^ s) = nk n o)) (decide (nk n (bh n ((2 ^ n - 1) ^^^ s)) = nk n o))
  simp only [decide_eq_true_eq] at h
  exact h
theorem cs_kin {xb xr mb mr x : Int32} {ib ir id jb jr jd jk : Nat → Int32} {V K : Prop} (hR : Rh xb xr mb mr) (hI : Im ib ir id jb jr jd jk) (hV : V) (hK : K) : wp_X9_kin xb xr ib ir x fun r => V ∧ wp_X10_kin mb mr jb jr jk x fun r2 => (r = r2 → K) ∧ (¬ r = r2 → False) := by
  obtain ⟨n, s, h0, hn, hs, rfl, rfl, rfl, rfl⟩ := hR
  have hp : 2 ^ n ≤ 2 ^ 24 := Nat.pow_le_pow_right (by omega) hn
  unfold wp_X9_kin wp_X10_kin wp_X10_kin_j35
  rcases rg x 0 1 with ⟨m, rfl, h1, h2, h3⟩ | hx
  · have ht := tI h3
    have hv : vp_in (nI m) 2 := vp_in_nI (by omega) (by omega)
    refine sp_isImageT (by omega) ⟨fun _ => ?_, fun q => absurd q (by decide)⟩
    rw [J_cl h3]
    refine ⟨hv, ?_⟩
    rcases hI m (by omega) with ⟨e1, e2⟩ | ⟨n2, o, d, g0, gn2, go, gd, e1, e2, e3, e4, e5, e6, e7⟩
    · rw [e1]
      refine ⟨fun q => absurd q.symm (nI_ne0 h0 (by omega)), fun _ => ⟨hV, ?_⟩⟩
      refine in_good (a := 0) (b := 1) rfl rfl (by omega) (by omega) ⟨fun _ => ⟨hv, fun _ => ?_, fun q => absurd e2 q⟩, fun q => absurd q (by decide)⟩
      exact eqk rfl hK
    · rw [e1, e2, e3, e4, e7]
      refine b_eq (by omega) (by omega) (fun q => ?_) (fun q => ?_)
      · subst q
        have hb1 := bh_lt (n := n2) (s := s) h0
        have hf := full_xor hs
        have hb2 := bh_lt (n := n2) (s := (2 ^ n2 - 1) ^^^ s) h0
        have l1 := @nk_lt n2 s
        have l2 := @nk_lt n2 o
        have l3 := @nk_lt n2 (bh n2 s)
        have l4 := @nk_lt n2 ((2 ^ n2 - 1) ^^^ s)
        have l5 := @nk_lt n2 (bh n2 ((2 ^ n2 - 1) ^^^ s))
        refine ⟨hv, sp_least h0 hn go (sp_inverted hn hs (sp_least h0 hn hs ?_))⟩
        refine b_eq9 (w := 1) (A := fun y => wp_X9_kin_j84 (nI n2) (nI s) ib ir _ (nI (nk n2 o)) (nI ((2 ^ n2 - 1) ^^^ s)) 0 y) (by omega) (by omega) ?_ rfl
        unfold wp_X9_kin_j84
        rw [show (0 : Int32) = nI 0 from rfl, fa_or]
        rintro x9 rfl
        refine sp_mirrored h0 hn hs (sp_least h0 hn hb1 ?_)
        refine b_eq9 (w := 2) (A := fun y => wp_X9_kin_j116 (nI n2) (nI s) ib ir _ (nI (nk n2 o)) (nI ((2 ^ n2 - 1) ^^^ s)) (nI (0 ||| kn n2 s o 1)) y) (by omega) (by omega) ?_ rfl
        unfold wp_X9_kin_j116
        rw [fa_or]
        rintro x6 rfl
        refine sp_least h0 hn hf ?_
        refine b_eq9 (w := 4) (A := fun y => wp_X9_kin_j138 (nI n2) (nI s) ib ir _ (nI (nk n2 o)) (nI ((2 ^ n2 - 1) ^^^ s)) (nI ((0 ||| kn n2 s o 1) ||| kn n2 (bh n2 s) o 2)) y) (by omega) (by omega) ?_ rfl
        unfold wp_X9_kin_j138
        rw [fa_or]
        rintro x2 rfl
        refine sp_mirrored h0 hn hf (sp_least h0 hn hb2 ?_)
        refine b_eq9 (w := 8) (A := fun y => wp_X9_kin_j168 (nI n2) (nI s) ib ir _ (nI ((0 ||| kn n2 s o 1) ||| kn n2 (bh n2 s) o 2 ||| kn n2 ((2 ^ n2 - 1) ^^^ s) o 4)) y) (by omega) (by omega) ?_ rfl
        unfold wp_X9_kin_j168
        rw [fa_or]
        rintro x1 rfl
        refine ⟨hV, ?_⟩
        refine in_good (a := 0) (b := 1) rfl rfl (by omega) (by omega) ⟨fun _ => ⟨hv, fun q => absurd q (by decide), fun _ => ⟨hv, fun _ => ⟨hv, ?_⟩, fun q => absurd rfl q⟩⟩, fun q => absurd q (by decide)⟩
        rintro x15 rfl
        refine sp_full10 (by omega) ?_
        rw [nx_xor, Nat.xor_comm s]
        rintro x17 rfl
        refine sp_isMoved h0 hn hs go ?_
        refine b_mv (w := 1) (A := fun y => wp_X10_kin_j78 (nI n2) (nI s) jb jr jk _ (nI o) (nI ((2 ^ n2 - 1) ^^^ s)) y) ?_
        unfold wp_X10_kin_j78
        refine sp_behindOf h0 hn hs (sp_isMoved h0 hn hb1 go ?_)
        refine b_mv (w := 2) (A := fun y => wp_X10_kin_j109 (nI n2) (nI s) jb jr jk _ (nI o) (nI ((2 ^ n2 - 1) ^^^ s)) (nI (kn n2 s o 1)) y) ?_
        unfold wp_X10_kin_j109
        rw [nI_add]
        rintro x5 rfl
        refine sp_isMoved h0 hn hf go ?_
        refine b_mv (w := 4) (A := fun y => wp_X10_kin_j131 (nI n2) (nI s) jb jr jk _ (nI o) (nI ((2 ^ n2 - 1) ^^^ s)) (nI (kn n2 s o 1 + kn n2 (bh n2 s) o 2)) y) ?_
        unfold wp_X10_kin_j131
        rw [nI_add]
        rintro x1 rfl
        refine sp_behindOf h0 hn hf (sp_isMoved h0 hn hb2 go ?_)
        refine b_mv (w := 8) (A := fun y => wp_X10_kin_j161 (nI n2) (nI s) jb jr jk _ (nI ((kn n2 s o 1 + kn n2 (bh n2 s) o 2) + kn n2 ((2 ^ n2 - 1) ^^^ s) o 4)) y) ?_
        unfold wp_X10_kin_j161
        rw [nI_add]
        exact eqk (kn_sum n2 s o) hK
      · refine ⟨hV, ?_⟩
        refine in_good (a := 0) (b := 1) rfl rfl (by omega) (by omega) ⟨fun _ => ⟨hv, fun q => absurd q (by decide), fun _ => ⟨hv, fun q2 => absurd ((nI_eq (by omega) (by omega)).mp q2) q, fun _ => ?_⟩⟩, fun q => absurd q (by decide)⟩
        exact eqk rfl hK
  · refine sp_isImageF hx ⟨fun q => absurd rfl q, fun _ => ⟨hV, ?_⟩⟩
    exact in_bad (a := 0) (b := 1) rfl rfl hx ⟨fun q => absurd rfl q, fun _ => eqk rfl hK⟩
