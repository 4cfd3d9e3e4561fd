/-! ===== which beat to hear next ===== -/
def lct (n s F b : Nat) : Nat := bc (F &&& ts n s b)
def lpt (n s F b : Nat) : Nat := if lct n s F b < bc F - lct n s F b then bc F - lct n s F b else lct n s F b
def lbs (n s F : Nat) : Nat → Int32 × Nat
  | 0 => (-1, bc F)
  | b + 1 => if lpt n s F b < (lbs n s F b).2 then (nI b, lpt n s F b) else lbs n s F b
theorem lct_le {n s F b : Nat} (hn : n ≤ 32) (hF : F < 2 ^ n) : lct n s F b ≤ bc F := by
  unfold lct
  rw [bc_n (Nat.and_lt_two_pow _ (ts_lt n s b)) hn, bc_n hF hn]
  refine fb_ct_sub (fun k _ h => ?_)
  rw [Nat.testBit_and] at h
  exact (Bool.and_eq_true_iff.mp h).1
theorem lct_ct {n s F b : Nat} (h0 : 0 < n) (hn : n ≤ 32) (hs : s < 2 ^ n) (hb : b < n) : lct n s F b = fb_ct (fun t => F.testBit t && (mv n s t).testBit b) n := by
  unfold lct
  rw [bc_n (Nat.and_lt_two_pow _ (ts_lt n s b)) hn]
  refine fb_ct_cong (fun t ht => ?_)
  rw [Nat.testBit_and, ts_tb h0 hs hb ht]
theorem lpt_le {n s F b : Nat} (hn : n ≤ 32) (hF : F < 2 ^ n) : lpt n s F b ≤ bc F := by
  have := lct_le (s := s) (b := b) hn hF
  unfold lpt
  split <;> omega
theorem lbs_le {n s F : Nat} (hn : n ≤ 32) (hF : F < 2 ^ n) : ∀ b, (lbs n s F b).2 ≤ bc F
  | 0 => Nat.le_refl _
  | b + 1 => by
    show (if lpt n s F b < (lbs n s F b).2 then (nI b, lpt n s F b) else lbs n s F b).2 ≤ _
    split
    · exact lpt_le hn hF
    · exact lbs_le hn hF b
theorem lbs_step (n s F b : Nat) : lbs n s F (b + 1) = if lpt n s F b < (lbs n s F b).2 then (nI b, lpt n s F b) else lbs n s F b := rfl
theorem cs_listen {xb xr mb mr xc mc : Int32} {xh xs mh ms : Nat → Int32} {K : Prop} (hR : Rh xb xr mb mr) (hE : Er xc xh xs mc mh ms) (hK : K) : wp_X9_listen xb xr xc xh xs fun r => wp_X10_listen mb mr mc mh ms fun r2 => (r = r2 → K) ∧ (¬ r = r2 → False) := by
  obtain ⟨n, s, h0, hn, hs, rfl, rfl, rfl, rfl⟩ := hR
  obtain ⟨c, hb, hw, hc, rfl, rfl, hx, hm⟩ := er_hd hE
  have hp : 2 ^ n ≤ 2 ^ 24 := Nat.pow_le_pow_right (by omega) hn
  unfold wp_X9_listen
  refine sp_fitting h0 hn hs hc hx ?_
  have hF := fset_lt n s hb hw c
  have hM := fun (Q : Int32 → Prop) (h : Q (nI (fset n s hb hw c))) => sp_moves10 (Q := Q) h0 hn hs hc hm h
  obtain ⟨F, eF⟩ : ∃ F, F = fset n s hb hw c := ⟨_, rfl⟩
  rw [← eF] at hF hM ⊢
  have hFb := bc_le hF (by omega : n ≤ 32)
  refine sp_bitCount (by omega) ?_
  refine lp_up (P := fun k j => wp_X9_listen_h26 (nI n) (nI s) (nI c) xh xs _ k (nI F) (lbs n s F j).1 (nI (lbs n s F j).2) (nI j)) (a := 0) (n := n) (by omega) ⟨1, ?_⟩ (fun j _ hj ⟨k, hk⟩ => ⟨k + 1, ?_⟩)
  · unfold wp_X9_listen_h26
    refine br_t (nI_le (Nat.le_refl _) (by omega)) ?_
    unfold wp_X10_listen
    refine hM _ (sp_bits (by omega) ?_)
    refine lp_up (P := fun k j => wp_X10_listen_h18 (nI n) (nI s) (nI c) mh ms _ k (nI F) (nI (bc F)) (lbs n s F j).1 (nI (lbs n s F j).2) (nI j)) (a := 0) (n := n) (by omega) ⟨1, ?_⟩ (fun j _ hj ⟨k, hk⟩ => ⟨k + 1, ?_⟩)
    · unfold wp_X10_listen_h18
      exact br_t (nI_le (Nat.le_refl _) (by omega)) (eqk rfl hK)
    · unfold wp_X10_listen_h18
      refine br_f (nI_ge hj (by omega)) ?_
      refine lp_up (P := fun z t => wp_X10_listen_h33 (nI n) (nI s) (nI c) mh ms _ _ z (nI F) (nI (bc F)) (lbs n s F j).1 (nI (lbs n s F j).2) (nI j) (nI (fb_ct (fun t => F.testBit t && (mv n s t).testBit j) t)) (nI t)) (a := 0) (n := n) (by omega) ⟨1, ?_⟩ (fun t _ ht ⟨z, hz⟩ => ⟨z + 1, ?_⟩)
      · unfold wp_X10_listen_h33
        refine br_t (nI_le (Nat.le_refl _) (by omega)) ?_
        rw [← lct_ct h0 (by omega : n ≤ 32) hs hj]
        have hle := lct_le (s := s) (b := j) (by omega : n ≤ 32) hF
        have hpl := lpt_le (s := s) (b := j) (by omega : n ≤ 32) hF
        have hbl := lbs_le (s := s) (by omega : n ≤ 32) hF j
        rw [pk_sub hle]
        have fin : wp_X10_listen_j106 (nI n) (nI s) (nI c) mh ms (wp_X10_listen_h18 (nI n) (nI s) (nI c) mh ms (fun r2 => ((lbs n s F n).1 = r2 → K) ∧ (¬ (lbs n s F n).1 = r2 → False)) k) (fun r2 => ((lbs n s F n).1 = r2 → K) ∧ (¬ (lbs n s F n).1 = r2 → False)) (nI F) (nI (bc F)) (lbs n s F j).1 (nI (lbs n s F j).2) (nI j) (nI (lpt n s F j)) := by
          unfold wp_X10_listen_j106 wp_X10_listen_j121 wp_X10_listen_j136
          have hst := lbs_step n s F j
          rw [nI_1]
          refine b_le (by omega) (by omega) (fun q => ?_) (fun q => ?_)
          · refine br_t (nI_le q (by omega)) ?_
            rintro x1 rfl
            rw [if_neg (by omega)] at hst
            rw [hst] at hk
            exact hk
          · refine br_f (nI_ge q (by omega)) ?_
            rintro x1 rfl
            rw [if_pos q] at hst
            rw [hst] at hk
            exact hk
        have ep : lpt n s F j = if lct n s F j < bc F - lct n s F j then bc F - lct n s F j else lct n s F j := rfl
        refine b_le (by omega) (by omega) (fun q => ?_) (fun q => ?_)
        · have e2 : lpt n s F j = bc F - lct n s F j := by rw [ep]; split <;> omega
          rw [← e2]
          exact fin
        · have e2 : lpt n s F j = lct n s F j := by rw [ep]; split <;> omega
          rw [← e2]
          exact fin
      · unfold wp_X10_listen_h33
        refine br_f (nI_ge ht (by omega)) ?_
        refine sp_has (by omega) (by omega) ?_
        have e := fb_ct_succ (fun t => F.testBit t && (mv n s t).testBit j) t
        unfold wp_X10_listen_j78 wp_X10_listen_j79
        have hml := mv_lt n s t
        cases h1 : F.testBit t
        · refine ⟨fun _ => ?_, fun q => absurd rfl q⟩
          rw [h1, Bool.false_and, if_neg (by decide), Nat.add_zero] at e
          rw [show (0 : Int32) = nI 0 from rfl, nI_add, Nat.add_zero, nI_1]
          rintro x4 rfl
          rintro x5 rfl
          rw [e] at hz
          exact hz
        · refine ⟨fun q => absurd q (by decide), fun _ => ?_⟩
          refine sp_moved10 h0 hn hs (by omega) ?_
          rw [Nat.mod_eq_of_lt ht]
          refine sp_has (by omega) (by omega) ?_
          rw [h1, Bool.true_and] at e
          cases h2 : (mv n s t).testBit j
          · refine ⟨fun _ => ?_, fun q => absurd rfl q⟩
            rw [h2, if_neg (by decide), Nat.add_zero] at e
            rw [show (0 : Int32) = nI 0 from rfl, nI_add, Nat.add_zero, nI_1]
            rintro x4 rfl
            rintro x5 rfl
            rw [e] at hz
            exact hz
          · refine ⟨fun q => absurd q (by decide), fun _ => ?_⟩
            rw [h2, if_pos rfl] at e
            rw [nI_1, nI_1]
            rintro x4 rfl
            rintro x5 rfl
            rw [e] at hz
            exact hz
  · unfold wp_X9_listen_h26
    refine br_f (nI_ge hj (by omega)) ?_
    refine sp_tts h0 hn hs hj ?_
    rw [fa_and]
    have hal : F &&& ts n s j < 2 ^ n := Nat.and_lt_two_pow _ (ts_lt n s j)
    refine sp_bitCount (by omega) (sp_bitCount (by omega) ?_)
    have hle := lct_le (s := s) (b := j) (by omega : n ≤ 32) hF
    have hpl := lpt_le (s := s) (b := j) (by omega : n ≤ 32) hF
    have hbl := lbs_le (s := s) (by omega : n ≤ 32) hF j
    have hst := lbs_step n s F j
    have e0 : bc (F &&& ts n s j) = lct n s F j := rfl
    rw [e0, pk_sub hle]
    have ep : (if nI (lct n s F j) < nI (bc F - lct n s F j) then nI (bc F - lct n s F j) else nI (lct n s F j)) = nI (lpt n s F j) := by
      unfold lpt
      by_cases q : lct n s F j < bc F - lct n s F j
      · rw [if_pos q, if_pos (nI_lt q (by omega))]
      · rw [if_neg q, if_neg (nI_nlt (by omega) (by omega))]
    rw [ep]
    rintro x6 rfl
    unfold wp_X9_listen_j81
    rw [nI_1]
    refine b_le (by omega) (by omega) (fun q => ?_) (fun q => ?_)
    · rintro x1 rfl
      rw [if_neg (by omega)] at hst
      rw [hst] at hk
      exact hk
    · rintro x1 rfl
      rw [if_pos q] at hst
      rw [hst] at hk
      exact hk
