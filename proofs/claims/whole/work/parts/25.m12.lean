/-! ===== how many tilings there can be ===== -/
theorem tk_len {f : Nat → List Nat} {p : Nat → Bool} {B : Nat} (h : ∀ j, (f j).length ≤ if p j then B else 0) : ∀ m b, (tk f m b).length ≤ fb_ct (fun i => p (b + i)) m * B
  | 0, _ => Nat.zero_le _
  | m + 1, b => by
    have ih := tk_len h m (b + 1)
    have h1 := fb_ct_split (fun i => p (b + i)) 1 m
    have e1 : fb_ct (fun i => p (b + i)) 1 = if p b then 1 else 0 := by
      show 0 + (if p (b + 0) then 1 else 0) = _
      rw [Nat.zero_add, Nat.add_zero]
    have e2 : fb_ct (fun k => p (b + (1 + k))) m = fb_ct (fun i => p (b + 1 + i)) m := fb_ct_cong (fun k _ => by rw [Nat.add_assoc])
    have h2 := h b
    unfold tk
    rw [List.length_append, Nat.add_comm m 1, h1, e1, e2, Nat.add_mul]
    refine Nat.add_le_add ?_ ih
    cases hb : p b
    · rw [hb] at h2; simpa using h2
    · rw [hb] at h2; simpa using h2
theorem tcov_len {n r : Nat} (hn : n ≤ 32) (hr : r < 2 ^ n) (hk : 0 < bc r) : ∀ (D c sh mm : Nat), c < 2 ^ n → n - bc c = bc r * mm → (tcov n r D c sh).length ≤ bc r ^ mm
  | 0, _, _, _, _, _ => Nat.zero_le _
  | D + 1, c, sh, mm, hc, hm => by
    unfold tcov
    by_cases hf : c = 2 ^ n - 1
    · rw [if_pos hf]
      exact Nat.pow_pos hk
    · rw [if_neg hf]
      have hcn : bc c < n := by
        have h1 := bc_le hc hn
        have h2 := bc_full hn hc
        rcases Nat.lt_or_ge (bc c) n with q | q
        · exact q
        · exact absurd (h2.mp (by omega)) hf
      obtain ⟨m', rfl⟩ : ∃ m', mm = m' + 1 := by
        cases mm with
        | zero => rw [Nat.mul_zero] at hm; omega
        | succ m' => exact ⟨m', rfl⟩
      have hkid : ∀ b, (tkid n r (tcov n r D) c sh b).length ≤ if r.testBit b then bc r ^ m' else 0 := by
        intro b
        unfold tkid
        cases hb : r.testBit b
        · simp
        · rw [if_pos rfl, if_pos rfl]
          by_cases hz : mv n r ((lz n c + n - b) % n) &&& c = 0
          · rw [if_pos hz]
            have htm := Nat.mod_lt (lz n c + n - b) (show 0 < n by omega)
            have hmv := mv_lt n r ((lz n c + n - b) % n)
            refine tcov_len hn hr hk D _ _ m' (Nat.or_lt_two_pow hc hmv) ?_
            rw [bc_or hn hc hmv (by rw [Nat.and_comm]; exact hz), bc_mv hr hn htm]
            rw [Nat.mul_add, Nat.mul_one] at hm
            omega
          · rw [if_neg hz]
            exact Nat.zero_le _
      have h1 := tk_len (p := fun b => r.testBit b) hkid n 0
      have e : fb_ct (fun i => r.testBit (0 + i)) n = bc r := by
        rw [bc_n hr hn]
        exact fb_ct_cong (fun k _ => by rw [Nat.zero_add])
      rw [e] at h1
      rw [Nat.pow_succ, Nat.mul_comm]
      exact h1
theorem pow_all : (List.range 25).all (fun n => (List.range 25).all (fun k => decide (0 < k → 0 < n → n % k = 0 → k ^ (n / k - 1) ≤ 2187))) = true := by decide +kernel
theorem tls_len {n r : Nat} (h0 : 0 < n) (hn : n ≤ 24) (hr : r < 2 ^ n) : (tls n r).length ≤ 2187 := by
  unfold tls
  have hbr := bc_le hr (by omega : n ≤ 32)
  by_cases hc : bc r = 0 ∨ n % bc r ≠ 0
  · rw [if_pos hc]; exact Nat.zero_le _
  · rw [if_neg hc]
    have hk : 0 < bc r := by omega
    have hmod : n % bc r = 0 := by omega
    have h1 := tcov_len (by omega : n ≤ 32) hr hk 24 r 1 (n / bc r - 1) hr (by
      have h2 := Nat.div_add_mod n (bc r)
      rw [hmod, Nat.add_zero] at h2
      rw [Nat.mul_sub, Nat.mul_one]
      omega)
    have h3 := all_r (all_r pow_all (show n < 25 by omega)) (show bc r < 25 by omega)
    have h4 := of_decide_eq_true h3 hk h0 hmod
    omega
theorem app_min {cap : Nat} : ∀ (l : List Nat) (c : Nat) (f : Nat → Int32), c ≤ cap → (app cap l c f).1 = min cap (c + l.length)
  | [], c, f, h => by
    show c = min cap (c + 0)
    omega
  | x :: l, c, f, h => by
    rw [app_cons, List.length_cons]
    by_cases hc : c < cap
    · rw [if_pos hc, app_min l _ _ (by omega)]
      omega
    · rw [if_neg hc]
      show c = _
      omega
/-! ===== the rows of tilings that are kept ===== -/
def tb (n r : Nat) : Nat → Int32 := fun j => nI ((tls n r).getD j 0)
/-- a row holds all tilings in order -/
def Tok (n r : Nat) (f : Nat → Int32) : Prop := Srt 0 (tls n r).length f ∧ Pm (tls n r).length (tb n r) f
theorem tok_eq {n r : Nat} {f g : Nat → Int32} (hf : Tok n r f) (hg : Tok n r g) : ∀ i, i < (tls n r).length → g i = f i := srt_unique hf.1 hg.1 (fun P => (hg.2 P).trans (hf.2 P).symm)
theorem pm_app {n r cap : Nat} {f : Nat → Int32} (h : (tls n r).length ≤ cap) : Pm (tls n r).length (tb n r) (app cap (tls n r) 0 f).2 := by
  intro P
  refine fb_ct_cong (fun k hk => ?_)
  rw [app_at (tls n r) 0 f (by omega) k, if_pos (by omega), Nat.sub_zero]
  rfl
def Tc (cap : Nat) (cnt bt rt : Int32) (f : Nat → Int32) : Prop := bt = 0 ∨ ∃ n r : Nat, 0 < n ∧ n ≤ 24 ∧ r < 2 ^ n ∧ bt = nI n ∧ rt = nI r ∧ cnt = nI (min cap (tls n r).length) ∧ ((tls n r).length ≤ cap → Tok n r f)
theorem sp_of {cap n r : Nat} {sc cnt bt rt : Int32} {f gs : Nat → Int32} {Q : Int32 → Int32 → Int32 → Int32 → Int32 → (Nat → Int32) → (Nat → Int32) → Prop} (h0 : 0 < n) (hn : n ≤ 24) (hr : r < 2 ^ n) (hcap : cap ≤ 8192) (hT : Tc cap cnt bt rt f) (hQ : ∀ (sc2 : Int32) (f2 gs2 : Nat → Int32), ((tls n r).length ≤ cap → Tok n r f2) → Q (nI (min cap (tls n r).length)) sc2 (nI (min cap (tls n r).length)) (nI n) (nI r) f2 gs2) : wp_X8_of cap sc cnt bt rt f gs (nI n) (nI r) Q := by
  have hp : 2 ^ n ≤ 2 ^ 24 := Nat.pow_le_pow_right (by omega) hn
  have hbr := bc_le hr (by omega : n ≤ 32)
  have fresh : wp_X8_of_j21 cap Q (nI n) (nI r) sc cnt bt rt f gs := by
    unfold wp_X8_of_j21 wp_X8_of_j71
    refine sp_bitCount (by omega) ?_
    have none_ : bc r = 0 ∨ n % bc r ≠ 0 → Q 0 sc 0 (nI n) (nI r) f gs := by
      intro hc
      have e : tls n r = [] := by unfold tls; rw [if_pos hc]
      have h := hQ sc f gs (fun _ => ⟨by rw [e]; intro i j _ _ hj; exact absurd hj (Nat.not_lt_zero _), by rw [e]; exact fun P => rfl⟩)
      rw [e, List.length_nil, Nat.min_zero] at h
      exact h
    refine b_le (b := 0) (by omega) (by omega) (fun q => none_ (Or.inl (by omega))) (fun q => ?_)
    refine sp_leftOver (by omega) q (by omega) ?_
    have hm := Nat.mod_lt n q
    refine b_ne (b := 0) (by omega) (by omega) (fun q2 => none_ (Or.inr q2)) (fun q2 => ?_)
    have e : tls n r = tcov n r 24 r 1 := by unfold tls; rw [if_neg (by omega)]
    refine sp_listStruck hn hr (fun g2 hg2 => ?_)
    have h1n : 1 < 2 ^ n := Nat.one_lt_two_pow (by omega)
    refine sp_cover h0 hn hr hcap hg2 q 24 26 (by omega) r 1 0 0 f _ hr h1n (by omega) (by omega) (by omega) ?_
    rw [← e, app_min (tls n r) 0 f (by omega), Nat.zero_add]
    refine sp_shell (by omega) hcap ?_
    intro g hpm hs ho
    refine hQ _ g g2 (fun hle => ?_)
    rw [Nat.min_eq_right hle] at hpm hs
    exact ⟨hs, (pm_app hle).tr hpm⟩
  unfold wp_X8_of
  rcases hT with hT | ⟨n', r', a1, a2, a3, a4, a5, a6, a7⟩
  · rw [hT]
    exact ⟨fun _ => by rw [hT] at fresh; exact fresh, fun q => absurd q (nI_ne0 h0 (by omega))⟩
  · have hp' : 2 ^ n' ≤ 2 ^ 24 := Nat.pow_le_pow_right (by omega) a2
    rw [a4, a5] at fresh ⊢
    refine b_ne (by omega) (by omega) (fun _ => fresh) (fun q => b_ne (by omega) (by omega) (fun _ => fresh) (fun q2 => ?_))
    subst q; subst q2
    rw [a6]
    exact hQ _ _ _ a7
/-- the reference's row -/
def Tm (cnt bt rt : Int32) (f : Nat → Int32) : Prop := bt = 0 ∨ ∃ n r : Nat, 0 < n ∧ n ≤ 24 ∧ r < 2 ^ n ∧ bt = nI n ∧ rt = nI r ∧ cnt = nI (tls n r).length ∧ Tok n r f
theorem sp_lay {n r : Nat} {cnt bt rt : Int32} {f fs fk fc : Nat → Int32} {Q : Int32 → Int32 → Int32 → (Nat → Int32) → (Nat → Int32) → (Nat → Int32) → (Nat → Int32) → Prop} (h0 : 0 < n) (hn : n ≤ 24) (hr : r < 2 ^ n) (hT : Tm cnt bt rt f) (hQ : ∀ (f2 a b c : Nat → Int32), Tok n r f2 → Q (nI (tls n r).length) (nI n) (nI r) f2 a b c) : wp_X10_layTilings (nI n) (nI r) cnt bt rt f fs fk fc Q := by
  have hp : 2 ^ n ≤ 2 ^ 24 := Nat.pow_le_pow_right (by omega) hn
  have hlen := tls_len h0 hn hr
  have fresh : wp_X10_layTilings_j22 (nI n) (nI r) Q cnt bt rt f fs fk fc := by
    unfold wp_X10_layTilings_j22 wp_X10_layTilings_j65
    refine sp_findTilings (most := 8192) h0 hn hr (by omega) (by omega) (fun a b c => ?_)
    rw [app_min (tls n r) 0 f (by omega), Nat.zero_add, Nat.min_eq_right (by omega)]
    refine sp_heap (by omega) ?_
    intro g hpm hs ho
    exact hQ g a b c ⟨hs, (pm_app (by omega)).tr hpm⟩
  unfold wp_X10_layTilings wp_X10_layTilings_j65
  rcases hT with hT | ⟨n', r', a1, a2, a3, a4, a5, a6, a7⟩
  · rw [hT]
    refine ⟨fun _ => by rw [hT] at fresh; exact fresh, fun q => absurd q.symm (nI_ne0 h0 (by omega))⟩
  · have hp' : 2 ^ n' ≤ 2 ^ 24 := Nat.pow_le_pow_right (by omega) a2
    rw [a4, a5] at fresh ⊢
    refine b_ne (by omega) (by omega) (fun _ => fresh) (fun q => b_eq (by omega) (by omega) (fun q2 => ?_) (fun _ => fresh))
    subst q; subst q2
    rw [a6]
    exact hQ _ _ _ _ a7
theorem sp_isTilingT {n r i : Nat} {cnt bt rt : Int32} {f fs fk fc : Nat → Int32} {Q : Int32 → Int32 → Int32 → Int32 → (Nat → Int32) → (Nat → Int32) → (Nat → Int32) → (Nat → Int32) → Prop} (h0 : 0 < n) (hn : n ≤ 24) (hr : r < 2 ^ n) (hT : Tm cnt bt rt f) (hi : i < (tls n r).length) (hQ : ∀ (f2 a b c : Nat → Int32), Tok n r f2 → Q 1 (nI (tls n r).length) (nI n) (nI r) f2 a b c) : wp_X10_isTiling (nI n) (nI r) cnt bt rt f fs fk fc (nI i) Q := by
  have hlen := tls_len h0 hn hr
  unfold wp_X10_isTiling
  refine sp_lay h0 hn hr hT (fun f2 a b c ht => ?_)
  refine sp_in (a := 0) (b := ((tls n r).length : Int) - 1) (by decide) (J_pred64 (by omega) (by omega)) (fun _ _ => ⟨isB1, hQ f2 a b c ht⟩) (fun q => ?_)
  rw [nI_toInt (by omega)] at q
  omega
theorem sp_isTilingF {n r : Nat} {x cnt bt rt : Int32} {f fs fk fc : Nat → Int32} {Q : Int32 → Int32 → Int32 → Int32 → (Nat → Int32) → (Nat → Int32) → (Nat → Int32) → (Nat → Int32) → Prop} (h0 : 0 < n) (hn : n ≤ 24) (hr : r < 2 ^ n) (hT : Tm cnt bt rt f) (hx : x < 0 ∨ nI (tls n r).length ≤ x) (hQ : ∀ (f2 a b c : Nat → Int32), Tok n r f2 → Q 0 (nI (tls n r).length) (nI n) (nI r) f2 a b c) : wp_X10_isTiling (nI n) (nI r) cnt bt rt f fs fk fc x Q := by
  have hlen := tls_len h0 hn hr
  have e0 : (0 : Int32).toInt = 0 := by decide
  unfold wp_X10_isTiling
  refine sp_lay h0 hn hr hT (fun f2 a b c ht => ?_)
  have e1 : ((nI (tls n r).length - 1 : Int32).toInt64).toInt = ((tls n r).length : Int) - 1 := by
    rw [Int32.toInt_toInt64, show (1 : Int32) = nI 1 from rfl, pk_sub_toInt (by omega) (by omega)]
    rfl
  refine sp_in (a := 0) (b := ((tls n r).length : Int) - 1) (by decide) e1 (fun q1 q2 => ?_) (fun _ => ⟨isB0, hQ f2 a b c ht⟩)
  rcases hx with hx | hx
  · rw [fa_lt] at hx
    omega
  · rw [fa_le, nI_toInt (by omega)] at hx
    omega
