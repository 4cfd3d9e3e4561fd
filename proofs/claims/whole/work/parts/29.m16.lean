/-! ===== the necklace of a rhythm is one ===== -/
theorem bc_vl {n s : Nat} (hs : s < 2 ^ n) (hn : n ≤ 32) : bc (vl n s) = bc s := by
  rw [bc_n (vl_lt n s) hn, bc_n hs hn]
  have key : ∀ m, m ≤ n → fb_ct (fun i => (vl n s).testBit i) m + fb_ct (fun i => s.testBit i) (n - m) = fb_ct (fun i => s.testBit i) n := by
    intro m
    induction m with
    | zero => intro _; show 0 + _ = _; rw [Nat.zero_add, Nat.sub_zero]
    | succ m ih =>
      intro hm
      have h1 := ih (by omega)
      have h2 := fb_ct_succ (fun i => (vl n s).testBit i) m
      have h3 := fb_ct_succ (fun i => s.testBit i) (n - (m + 1))
      rw [show n - (m + 1) + 1 = n - m by omega] at h3
      have e : (vl n s).testBit m = s.testBit (n - (m + 1)) := by rw [vl_tb (by omega), show n - 1 - m = n - (m + 1) by omega]
      rw [h2, e]
      omega
  have h := key n (Nat.le_refl n)
  rw [Nat.sub_self] at h
  exact h
theorem nk_bc {n s : Nat} (h0 : 0 < n) (hn : n ≤ 32) (hs : s < 2 ^ n) : bc (nk n s) = bc s := by
  rw [← nk_at]
  unfold wv
  rw [bc_vl (mv_lt _ _ _) hn, bc_mv hs hn (nt_lt h0)]
theorem nk_NK {n s : Nat} (h0 : 0 < n) (hs : s < 2 ^ n) : NK n (nk n s) := by
  intro t ht1 ht2
  have e : mv n (nk n s) t = wv n s ((nt n s + (n - t)) % n) := by
    rw [← nk_at]
    unfold wv
    have h1 := vl_mv (mv_lt n s (nt n s)) (show n - t < n by omega)
    rw [mv_mv hs (nt_lt h0) (by omega), show n - (n - t) = t by omega, Nat.mod_eq_of_lt ht2] at h1
    exact h1.symm
  rw [e]
  exact nk_le (Nat.mod_lt _ h0)
/-! ===== the class's next necklace ===== -/
/-- the next necklace with as many bits: there is none, or it is the least that is greater -/
def Nx (n v ones : Nat) (x : Int32) : Prop := (x = -1 ∧ ∀ w, v < w → w < 2 ^ n → ¬ Cn n ones w) ∨ ∃ w, x = nI w ∧ v < w ∧ w < 2 ^ n ∧ Cn n ones w ∧ ∀ u, v < u → u < w → ¬ Cn n ones u
theorem nx_one {n v ones : Nat} {x y : Int32} (hx : Nx n v ones x) (hy : Nx n v ones y) : x = y := by
  rcases hx with ⟨rfl, h1⟩ | ⟨w, rfl, a1, a2, a3, a4⟩
  · rcases hy with ⟨rfl, _⟩ | ⟨w, rfl, b1, b2, b3, b4⟩
    · rfl
    · exact absurd b3 (h1 w b1 b2)
  · rcases hy with ⟨rfl, h1⟩ | ⟨u, rfl, b1, b2, b3, b4⟩
    · exact absurd a3 (h1 w a1 a2)
    · rcases Nat.lt_or_ge w u with q | q
      · exact absurd a3 (b4 w a1 q)
      · rcases Nat.lt_or_ge u w with q2 | q2
        · exact absurd b3 (a4 u b1 q2)
        · rw [show w = u by omega]
theorem sp_later {n v : Nat} {Q : Int32 → Prop} (h0 : 0 < n) (hn : n ≤ 24) (hv : v < 2 ^ n) (hN : NK n v) (hQ : ∀ x, Nx n v (bc v) x → Q x) : wp_X4_later (nI n) (nI v) Q := by
  have hpw : 2 ^ n ≤ 2 ^ 24 := Nat.pow_le_pow_right (by omega) hn
  have hbl := bc_le hv (by omega : n ≤ 32)
  unfold wp_X4_later
  refine sp_bitCount (by omega) ?_
  intro x9 e9
  rw [show (1 : Int32) = nI 1 from rfl, pk_sub h0] at e9
  rw [e9]
  -- heads shorter than at were tried in vain: nothing below 2^m above v in the same block
  have block : ∀ (m : Nat), m < n → ∀ w, v < w → w / 2 ^ (m + 1) = v / 2 ^ (m + 1) → w / 2 ^ m = v / 2 ^ m ∨ (v.testBit m = false ∧ w / 2 ^ m = v / 2 ^ m + 1) := by
    intro m hm w hw he
    have hle := Nat.div_le_div_right (c := 2 ^ m) (Nat.le_of_lt hw)
    rw [Nat.pow_succ, ← Nat.div_div_eq_div_mul, ← Nat.div_div_eq_div_mul] at he
    rcases Nat.eq_or_lt_of_le hle with q | q
    · exact Or.inl q.symm
    · refine Or.inr ⟨?_, by omega⟩
      rw [Nat.testBit_eq_decide_div_mod_eq]
      exact decide_eq_false (by omega)
  -- one step of the loop
  have step : ∀ at_, at_ < n → (∀ w, v < w → w / 2 ^ (n - 1 - at_) = v / 2 ^ (n - 1 - at_) → ¬ Cn n (bc v) w) → ((∀ w, v < w → w / 2 ^ (n - 1 - at_ + 1) = v / 2 ^ (n - 1 - at_ + 1) → ¬ Cn n (bc v) w) → ∃ z, ∀ x1, x1 = nI at_ + (-1) → wp_X4_later_h9 Q z (nI n) (nI v) (nI (bc v)) x1) → ∃ z, wp_X4_later_h9 Q z (nI n) (nI v) (nI (bc v)) (nI at_) := by
    intro at_ hat hno hgo
    obtain ⟨m, hm⟩ : ∃ m, m = n - 1 - at_ := ⟨_, rfl⟩
    rw [← hm] at hno hgo
    have hpm := Nat.two_pow_pos m
    have hpm32 : 2 ^ m ≤ 2 ^ 24 := Nat.pow_le_pow_right (by omega) (by omega)
    have hbit : v &&& 2 ^ m = 0 ↔ v.testBit m = false := fb_bit_nat v m
    have hand : v &&& 2 ^ m < 2 ^ n := Nat.and_lt_two_pow _ (Nat.pow_lt_pow_right (by omega) (by omega))
    by_cases hb : v.testBit m = true
    · obtain ⟨z, hz⟩ := hgo (fun w h1 h2 => by
        rcases block m (by omega) w h1 h2 with q | ⟨q, _⟩
        · exact hno w h1 q
        · rw [hb] at q; cases q)
      refine ⟨z + 1, ?_⟩
      unfold wp_X4_later_h9 wp_X4_later_j63
      refine br_f (nI_pos (by omega)) ?_
      intro x3 e3
      rw [show nI n - 1 - nI at_ = nI m by rw [show (1 : Int32) = nI 1 from rfl, pk_sub h0, pk_sub (by omega), ← hm], J_shl1 (by omega)] at e3
      rw [e3, fa_and]
      refine b_ne (b := 0) (by omega) (by omega) (fun _ => hz) (fun q => ?_)
      rw [hbit.mp q] at hb
      cases hb
    · have hbf : v.testBit m = false := by simpa using hb
      -- the head: v's first letters, and a one
      obtain ⟨x, hx⟩ : ∃ x, x = v / 2 ^ m + 1 := ⟨_, rfl⟩
      have hve : v / 2 ^ m % 2 = 0 := by
        rw [Nat.testBit_eq_decide_div_mod_eq] at hbf
        have := of_decide_eq_false hbf
        omega
      have hdm := Nat.div_add_mod v (2 ^ m)
      have hvm := Nat.mod_lt v hpm
      have hxlt : 2 ^ m * x < 2 ^ n := by
        have hmn : 2 ^ n = 2 ^ m * (2 * 2 ^ at_) := by
          rw [show n = m + (at_ + 1) by omega, Nat.pow_add, Nat.pow_succ, Nat.mul_comm (2 ^ at_) 2]
        have hq : v / 2 ^ m < 2 * 2 ^ at_ := Nat.div_lt_of_lt_mul (by rw [← hmn]; exact hv)
        rw [hmn]
        exact Nat.mul_lt_mul_of_pos_left (by omega) hpm
      have hgt : v < 2 ^ m * x := by rw [hx, Nat.mul_add, Nat.mul_one]; omega
      have let1 : ∀ i, i < at_ → wd n (2 ^ m * x) i = wd n v i := by
        intro i hi
        unfold wd
        have h2 := Nat.testBit_two_pow_mul_add x (i := m) (b := 0) hpm (n - 1 - i)
        rw [Nat.add_zero] at h2
        rw [h2, if_neg (by omega)]
        have h3 := Nat.testBit_two_pow_mul_add (v / 2 ^ m) (i := m) hvm (n - 1 - i)
        rw [hdm, if_neg (by omega)] at h3
        rw [h3]
        obtain ⟨j, hj⟩ : ∃ j, n - 1 - i - m = j + 1 := ⟨n - 1 - i - m - 1, by omega⟩
        rw [hj, Nat.testBit_succ, Nat.testBit_succ, hx, show (v / 2 ^ m + 1) / 2 = v / 2 ^ m / 2 by omega]
      have let2 : wd n (2 ^ m * x) at_ = true := by
        unfold wd
        have h2 := Nat.testBit_two_pow_mul_add x (i := m) (b := 0) hpm (n - 1 - at_)
        rw [Nat.add_zero] at h2
        rw [h2, if_neg (by omega), show n - 1 - at_ - m = 0 by omega, Nat.testBit_zero, hx]
        simp
        omega
      have hP : Pre (wd n (2 ^ m * x)) (at_ + 1) (at_ + 1) := by
        by_cases ha0 : at_ = 0
        · subst ha0; exact pre_1 _
        · obtain ⟨p, hp⟩ := nk_pre hv hN at_ (by omega) (by omega)
          have hp1 := hp.1
          have hpL := hp.2.1
          refine pre_more (pre_cong hp let1) let2 ?_
          rw [let1 _ (by omega)]
          cases hc : wd n v (at_ - p) with
          | false => rfl
          | true =>
            have h3 := nk_ge hv hN hp (by omega) hc
            unfold wd at h3
            rw [← hm, hbf] at h3
            cases h3
      have hcand : ∀ w, v < w → w / 2 ^ (m + 1) = v / 2 ^ (m + 1) → Cn n (bc v) w → 2 ^ m * x ≤ w ∧ w < 2 ^ m * x + 2 ^ m := by
        intro w h1 h2 hc
        rcases block m (by omega) w h1 h2 with q | ⟨_, q⟩
        · exact absurd hc (hno w h1 q)
        · have h3 := Nat.div_add_mod w (2 ^ m)
          have h4 := Nat.mod_lt w hpm
          rw [q, ← hx] at h3
          omega
      have hrest : ∀ w, v < w → w < 2 ^ m * x → ¬ Cn n (bc v) w := by
        intro w h1 h2
        refine hno w h1 ?_
        have h5 := Nat.div_le_div_right (c := 2 ^ m) (Nat.le_of_lt h1)
        have h6 : w / 2 ^ m < x := Nat.div_lt_of_lt_mul h2
        omega
      have body : ∀ (z : Nat), ((∀ w, v < w → w / 2 ^ (m + 1) = v / 2 ^ (m + 1) → ¬ Cn n (bc v) w) → ∀ x1, x1 = nI at_ + (-1) → wp_X4_later_h9 Q z (nI n) (nI v) (nI (bc v)) x1) → wp_X4_later_h9 Q (z + 1) (nI n) (nI v) (nI (bc v)) (nI at_) := by
        intro z hz
        unfold wp_X4_later_h9 wp_X4_later_j63
        refine br_f (nI_pos (by omega)) ?_
        intro x3 e3
        rw [show nI n - 1 - nI at_ = nI m by rw [show (1 : Int32) = nI 1 from rfl, pk_sub h0, pk_sub (by omega), ← hm], J_shl1 (by omega)] at e3
        rw [e3, fa_and]
        refine b_ne (b := 0) (by omega) (by omega) (fun q => absurd (hbit.mpr hbf) q) (fun _ => ?_)
        intro x5 e5
        have e6 : nI v &&& (-nI (2 ^ m)) = nI (2 ^ m * (v / 2 ^ m)) := by
          rw [J_neg2 (by omega) hpm, fa_and]
          refine congrArg nI ?_
          have h3 := Nat.testBit_two_pow_mul_add (v / 2 ^ m) (i := m) (b := 0) hpm
          apply Nat.eq_of_testBit_eq
          intro i
          rw [Nat.testBit_and, show 2 ^ 32 - 2 ^ m = 2 ^ 32 - ((2 ^ m - 1) + 1) by omega, Nat.testBit_two_pow_sub_succ (by omega), Nat.testBit_two_pow_sub_one]
          have h4 := h3 i
          rw [Nat.add_zero] at h4
          rw [h4]
          by_cases hi : i < m
          · rw [if_pos hi]; simp [hi]
          · rw [if_neg hi]
            have h5 := Nat.testBit_two_pow_mul_add (v / 2 ^ m) (i := m) hvm i
            rw [hdm, if_neg hi] at h5
            rw [← h5]
            by_cases hi32 : i < 32
            · simp [hi, hi32]
            · rw [tb_big hv (by omega : n ≤ i)]; simp
        have e7 : 2 ^ m * (v / 2 ^ m) ||| 2 ^ m = 2 ^ m * x := by
          have h3 := fb_bit_set (2 ^ m * (v / 2 ^ m)) m
          apply Nat.eq_of_testBit_eq
          intro i
          rw [h3 i]
          have h4 := Nat.testBit_two_pow_mul_add (v / 2 ^ m) (i := m) (b := 0) hpm i
          have h5 := Nat.testBit_two_pow_mul_add x (i := m) (b := 0) hpm i
          rw [Nat.add_zero] at h4 h5
          rw [h4, h5]
          by_cases hi : i < m
          · rw [if_pos hi, if_pos hi]; simp; omega
          · rw [if_neg hi, if_neg hi]
            by_cases he : i = m
            · subst he
              rw [Nat.sub_self, Nat.testBit_zero, hx]
              simp
              omega
            · obtain ⟨j, hj⟩ : ∃ j, i - m = j + 1 := ⟨i - m - 1, by omega⟩
              rw [hj, Nat.testBit_succ, Nat.testBit_succ, hx, show (v / 2 ^ m + 1) / 2 = v / 2 ^ m / 2 by omega]
              simp [he]
        rw [e6, fa_or, e7] at e5
        rw [e5, nI_1]
        refine sp_completed h0 hn hbl m 26 (at_ + 1) x (at_ + 1) _ (by omega) (by omega) (by omega) hxlt hP (fun r hr => ?_)
        have hle2 : 2 ^ m * x + 2 ^ m ≤ 2 ^ n := by
          have hmn : 2 ^ n = 2 ^ m * (2 * 2 ^ at_) := by
            rw [show n = m + (at_ + 1) by omega, Nat.pow_add, Nat.pow_succ, Nat.mul_comm (2 ^ at_) 2]
          rw [hmn] at hxlt ⊢
          have := Nat.lt_of_mul_lt_mul_left hxlt
          have h9 : 2 ^ m * (x + 1) ≤ 2 ^ m * (2 * 2 ^ at_) := Nat.mul_le_mul_left _ this
          rw [Nat.mul_add, Nat.mul_one] at h9
          exact h9
        rcases hr with ⟨rfl, hnone⟩ | ⟨w, rfl, w1, w2, w3, w4⟩
        · refine ⟨fun _ => hz (fun w h1 h2 hc => ?_), fun q => absurd rfl q⟩
          obtain ⟨c1, c2⟩ := hcand w h1 h2 hc
          exact hnone w c1 c2 hc
        · refine ⟨fun q => absurd q (J_ne1 (by omega)), fun _ => hQ _ (Or.inr ⟨w, rfl, by omega, w3.1, w3, fun u h1 h2 => ?_⟩)⟩
          rcases Nat.lt_or_ge u (2 ^ m * x) with c | c
          · exact hrest u h1 c
          · exact w4 u c h2
      by_cases hall : ∀ w, v < w → w / 2 ^ (m + 1) = v / 2 ^ (m + 1) → ¬ Cn n (bc v) w
      · obtain ⟨z, hz⟩ := hgo hall
        exact ⟨z + 1, body z (fun _ => hz)⟩
      · exact ⟨0 + 1, body 0 (fun q => absurd q hall)⟩
  have key : ∀ at_, at_ < n → (∀ w, v < w → w / 2 ^ (n - 1 - at_) = v / 2 ^ (n - 1 - at_) → ¬ Cn n (bc v) w) → ∃ z, wp_X4_later_h9 Q z (nI n) (nI v) (nI (bc v)) (nI at_) := by
    intro at_
    induction at_ with
    | zero =>
      intro hat hno
      refine step 0 hat hno (fun hall => ⟨1, fun x1 e1 => ?_⟩)
      unfold wp_X4_later_h9
      refine br_t (by rw [e1]; decide) (hQ _ (Or.inl ⟨rfl, fun w h1 h2 => hall w h1 ?_⟩))
      rw [show n - 1 - 0 + 1 = n by omega, Nat.div_eq_of_lt h2, Nat.div_eq_of_lt hv]
    | succ at_ ih =>
      intro hat hno
      refine step (at_ + 1) hat hno (fun hall => ?_)
      obtain ⟨z, hz⟩ := ih (by omega) (fun w h1 h2 => hall w h1 (by rw [show n - 1 - (at_ + 1) + 1 = n - 1 - at_ by omega]; exact h2))
      refine ⟨z, fun x1 e1 => ?_⟩
      rw [J_lvl] at e1
      rw [e1]
      exact hz
  exact key (n - 1) (by omega) (fun w h1 h2 => by
    rw [show n - 1 - (n - 1) = 0 by omega, Nat.pow_zero, Nat.div_one, Nat.div_one] at h2
    omega)
