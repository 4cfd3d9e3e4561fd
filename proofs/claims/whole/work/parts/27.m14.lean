/-! ===== the fewest beats to strike otherwise ===== -/
def tl1 (n r x : Nat) : Bool := decide (0 < (tls n (r ^^^ x)).length)
/-- the least set of k beats by which there is a tiling; 2^n: none -/
def lsf (n r k : Nat) : Nat := fa_first (fun x => decide (bc x = k) && tl1 n r x) (2 ^ n)
/-- the fewest; 4: more than three -/
def lk (n r : Nat) : Nat := fa_first (fun k => decide (lsf n r k < 2 ^ n)) 4
theorem lsf_of {n r k s : Nat} (hno : ∀ x, x < s → bc x = k → tl1 n r x = false) (hs : s < 2 ^ n) (hb : bc s = k) (ht : tl1 n r s = true) : lsf n r k = s := by
  unfold lsf
  have hle : fa_first (fun x => decide (bc x = k) && tl1 n r x) (2 ^ n) ≤ s := by
    rcases Nat.lt_or_ge s (fa_first (fun x => decide (bc x = k) && tl1 n r x) (2 ^ n)) with q | q
    · have h := fa_first_no (fun x => decide (bc x = k) && tl1 n r x) (2 ^ n) s q
      simp [hb, ht] at h
    · exact q
  have hy := fa_first_yes (fun x => decide (bc x = k) && tl1 n r x) (2 ^ n) (by omega)
  rw [Bool.and_eq_true, decide_eq_true_eq] at hy
  rcases Nat.lt_or_ge (fa_first (fun x => decide (bc x = k) && tl1 n r x) (2 ^ n)) s with q | q
  · rw [hno _ q hy.1] at hy
    simp at hy
  · omega
theorem lsf_none {n r k : Nat} (hno : ∀ x, x < 2 ^ n → bc x = k → tl1 n r x = false) : lsf n r k = 2 ^ n := by
  unfold lsf
  have hle := fa_first_le (fun x => decide (bc x = k) && tl1 n r x) (2 ^ n)
  rcases Nat.lt_or_ge (fa_first (fun x => decide (bc x = k) && tl1 n r x) (2 ^ n)) (2 ^ n) with q | q
  · have hy := fa_first_yes (fun x => decide (bc x = k) && tl1 n r x) (2 ^ n) q
    rw [Bool.and_eq_true, decide_eq_true_eq] at hy
    rw [hno _ q hy.1] at hy
    simp at hy
  · omega
theorem lsf_bc {n r k : Nat} (h : lsf n r k < 2 ^ n) : bc (lsf n r k) = k := by
  have hy := fa_first_yes (fun x => decide (bc x = k) && tl1 n r x) (2 ^ n) h
  rw [Bool.and_eq_true, decide_eq_true_eq] at hy
  exact hy.1
def it (s : Nat) : Nat → Nat
  | 0 => s
  | i + 1 => gn (it s i)
theorem it_3 : 2 ^ 24 ≤ it 7 2024 := by decide +kernel
theorem it_2 : 2 ^ 24 ≤ it 3 276 := by decide +kernel
theorem it_1 : 2 ^ 24 ≤ it 1 24 := by decide +kernel
/-- what is on the way: less than 2^24 up to there -/
theorem sp_leastOfSize {n r k : Nat} {sc cnt bt rt : Int32} {f gs : Nat → Int32} {Q : Int32 → Int32 → Int32 → Int32 → Int32 → (Nat → Int32) → (Nat → Int32) → Prop} (h0 : 0 < n) (hn : n ≤ 24) (hr : r < 2 ^ n) (hk : k ≤ 3) (hT : Tc 1 cnt bt rt f) (hQ : ∀ (sc2 cnt2 bt2 rt2 : Int32) (f2 gs2 : Nat → Int32), Tc 1 cnt2 bt2 rt2 f2 → Q (if lsf n r k < 2 ^ n then nI (lsf n r k) else -1) sc2 cnt2 bt2 rt2 f2 gs2) : wp_X3_leastOfSize (nI n) (nI r) sc cnt bt rt f gs (nI k) Q := by
  have hp : 2 ^ n ≤ 2 ^ 24 := Nat.pow_le_pow_right (by omega) hn
  have hp0 := Nat.two_pow_pos n
  unfold wp_X3_leastOfSize
  refine sp_full (by omega) ?_
  have stop : ∀ (sc2 cnt2 bt2 rt2 : Int32) (f2 gs2 : Nat → Int32), Tc 1 cnt2 bt2 rt2 f2 → (∀ x, x < 2 ^ n → bc x = k → tl1 n r x = false) → wp_X3_leastOfSize_j58 (nI n) (nI r) Q sc2 cnt2 bt2 rt2 f2 gs2 := by
    intro sc2 cnt2 bt2 rt2 f2 gs2 hT2 hno
    unfold wp_X3_leastOfSize_j58
    have h := hQ sc2 cnt2 bt2 rt2 f2 gs2 hT2
    rw [lsf_none hno, if_neg (Nat.lt_irrefl _)] at h
    exact h
  -- one try
  have try1 : ∀ (z i s : Nat) (sc cnt bt rt : Int32) (f gs : Nat → Int32), i < 2024 → s < 2 ^ n → bc s = k → Tc 1 cnt bt rt f → (∀ x, x < s → bc x = k → tl1 n r x = false) →
      (∀ (sc2 cnt2 bt2 rt2 : Int32) (f2 gs2 : Nat → Int32), Tc 1 cnt2 bt2 rt2 f2 → tl1 n r s = false → wp_X3_nextOfSize (nI s) fun r12 => ∀ x13 : Int32, x13 = nI i + 1 → (wp_X3_leastOfSize_h7 (nI n) (nI r) Q z) r12 x13 sc2 cnt2 bt2 rt2 f2 gs2) →
      wp_X3_leastOfSize_h7 (nI n) (nI r) Q (z + 1) (nI s) (nI i) sc cnt bt rt f gs := by
    intro z i s sc cnt bt rt f gs hi hs hbs hT hno hgo
    unfold wp_X3_leastOfSize_h7
    refine br_f (nI_ge (b := 2024) hi (by omega)) ?_
    refine sp_full (by omega) ?_
    refine br_f (nI_nlt (by omega) (by omega)) ?_
    rw [fb_xorI]
    have hx : r ^^^ s < 2 ^ n := Nat.xor_lt_two_pow hr hs
    refine sp_of h0 hn hx (by omega) hT (fun sc2 f2 gs2 hok => ?_)
    have hT2 : Tc 1 (nI (min 1 (tls n (r ^^^ s)).length)) (nI n) (nI (r ^^^ s)) f2 := Or.inr ⟨n, r ^^^ s, h0, hn, hx, rfl, rfl, rfl, hok⟩
    refine b_le (b := 0) (by omega) (by omega) (fun q => ?_) (fun q => ?_)
    · have ht : tl1 n r s = false := decide_eq_false (by omega)
      exact hgo sc2 _ _ _ f2 gs2 hT2 ht
    · have ht : tl1 n r s = true := decide_eq_true (by omega)
      have h := hQ sc2 _ _ _ f2 gs2 hT2
      rw [lsf_of hno hs hbs ht, if_pos hs] at h
      exact h
  -- past the last set
  have over : ∀ (i s : Nat) (sc cnt bt rt : Int32) (f gs : Nat → Int32), i < 2 ^ 31 → s < 2 ^ 31 → 2 ^ n ≤ s → Tc 1 cnt bt rt f → (∀ x, x < 2 ^ n → bc x = k → tl1 n r x = false) → wp_X3_leastOfSize_h7 (nI n) (nI r) Q 1 (nI s) (nI i) sc cnt bt rt f gs := by
    intro i s sc cnt bt rt f gs hi hs31 hs hT hno
    unfold wp_X3_leastOfSize_h7
    refine b_le (a := 2024) (by omega) hi (fun _ => stop _ _ _ _ _ _ hT hno) (fun _ => ?_)
    refine sp_full (by omega) ?_
    exact br_t (nI_lt (by omega) hs31) (stop _ _ _ _ _ _ hT hno)
  by_cases hk0 : k = 0
  · subst hk0
    refine ⟨2, ?_⟩
    refine try1 1 0 0 sc cnt bt rt f gs (by omega) hp0 bc_0 hT (fun x hx => absurd hx (Nat.not_lt_zero x)) (fun sc2 cnt2 bt2 rt2 f2 gs2 hT2 ht => ?_)
    unfold wp_X3_nextOfSize
    refine ⟨fun q => absurd rfl q, fun _ => ?_⟩
    intro x13 e13
    rw [e13]
    refine over 1 1073741824 sc2 cnt2 bt2 rt2 f2 gs2 (by omega) (by omega) (by omega) hT2 (fun x hx hb => ?_)
    rw [(bc_eq0 (by omega)).mp hb]
    exact ht
  · have hs0 : 0 < 2 ^ k - 1 := by
      have := Nat.pow_le_pow_right (show 0 < 2 by omega) (show 1 ≤ k by omega)
      omega
    have hlast : ∃ N, N ≤ 2024 ∧ 2 ^ 24 ≤ it (2 ^ k - 1) N := by
      rcases (show k = 1 ∨ k = 2 ∨ k = 3 by omega) with rfl | rfl | rfl
      · exact ⟨24, by omega, it_1⟩
      · exact ⟨276, by omega, it_2⟩
      · exact ⟨2024, by omega, it_3⟩
    obtain ⟨N, hN1, hN2⟩ := hlast
    have key : ∀ d i, i + d = N → ∀ (s : Nat) (sc cnt bt rt : Int32) (f gs : Nat → Int32), s = it (2 ^ k - 1) i → 0 < s → s < 2 ^ 27 → bc s = k → (∀ x, x < s → bc x = k → tl1 n r x = false ∨ 2 ^ n ≤ x) → Tc 1 cnt bt rt f → wp_X3_leastOfSize_h7 (nI n) (nI r) Q (d + 1) (nI s) (nI i) sc cnt bt rt f gs := by
      intro d
      induction d with
      | zero =>
        intro i hi s sc cnt bt rt f gs es hs0 hs27 hbs hno hT
        have e : i = N := by omega
        subst e
        refine over i s sc cnt bt rt f gs (by omega) (by omega) (by omega) hT (fun x hx hb => ?_)
        rcases hno x (by omega) hb with q | q
        · exact q
        · omega
      | succ d ih =>
        intro i hi s sc cnt bt rt f gs es hs0 hs27 hbs hno hT
        by_cases hsn : s < 2 ^ n
        · refine try1 (d + 1) i s sc cnt bt rt f gs (by omega) hsn hbs hT (fun x hx hb => (hno x hx hb).resolve_right (by omega)) (fun sc2 cnt2 bt2 rt2 f2 gs2 hT2 ht => ?_)
          obtain ⟨b, y, e1, e2, e3, e4, e5, e6, e7, e8⟩ := gn_ok hs0 (by omega)
          refine sp_nextOfSize hs0 (by omega) ?_
          intro x13 e13
          rw [nI_1] at e13
          rw [e13]
          refine ih (i + 1) (by omega) (gn s) sc2 cnt2 bt2 rt2 f2 gs2 (by rw [es]; rfl) (by omega) e4 (by rw [e6]; exact hbs) (fun x hx hb => ?_) hT2
          rcases Nat.lt_or_ge x s with q | q
          · exact hno x q hb
          · rcases Nat.eq_or_lt_of_le q with q2 | q2
            · rw [← q2]; exact Or.inl ht
            · exact absurd (by rw [hb, hbs]) (e7 x q2 hx)
        · -- already past
          unfold wp_X3_leastOfSize_h7
          have hno2 : ∀ x, x < 2 ^ n → bc x = k → tl1 n r x = false := fun x hx hb => (hno x (by omega) hb).resolve_right (by omega)
          refine b_le (a := 2024) (by omega) (by omega) (fun _ => stop _ _ _ _ _ _ hT hno2) (fun _ => ?_)
          refine sp_full (by omega) ?_
          exact br_t (nI_lt (by omega) (by omega)) (stop _ _ _ _ _ _ hT hno2)
    have h8 : 2 ^ k ≤ 8 := Nat.pow_le_pow_right (show 0 < 2 by omega) hk
    refine ⟨_, key N 0 (by omega) (2 ^ k - 1) sc cnt bt rt f gs rfl hs0 (by omega) (bc_ones (by omega)) (fun x hx hb => ?_) hT⟩
    have := bc_ge x (by omega)
    rw [hb] at this
    omega
/-- what is kept of it -/
def Md (bt rt md : Int32) : Prop := bt = 0 ∨ ∃ n r : Nat, 0 < n ∧ n ≤ 24 ∧ r < 2 ^ n ∧ bt = nI n ∧ rt = nI r ∧ md = (if lk n r < 4 then nI (lsf n r (lk n r)) else -1)
theorem sp_mend {n r : Nat} {bt rt md sc cnt pb pr : Int32} {f gs : Nat → Int32} {Q : Int32 → Int32 → Int32 → Int32 → Int32 → Int32 → Int32 → Int32 → (Nat → Int32) → (Nat → Int32) → Prop} (h0 : 0 < n) (hn : n ≤ 24) (hr : r < 2 ^ n) (hM : Md bt rt md) (hT : Tc 1 cnt pb pr f) (hQ : ∀ (sc2 cnt2 pb2 pr2 : Int32) (f2 gs2 : Nat → Int32), Tc 1 cnt2 pb2 pr2 f2 → Q (if lk n r < 4 then nI (lsf n r (lk n r)) else -1) (nI n) (nI r) (if lk n r < 4 then nI (lsf n r (lk n r)) else -1) sc2 cnt2 pb2 pr2 f2 gs2) : wp_X3_of bt rt md sc cnt pb pr f gs (nI n) (nI r) Q := by
  have hp : 2 ^ n ≤ 2 ^ 24 := Nat.pow_le_pow_right (by omega) hn
  have hlk4 := fa_first_le (fun k => decide (lsf n r k < 2 ^ n)) 4
  have hne : ∀ {v : Nat}, v < 2 ^ 31 → ¬ nI v = (-1 : Int32) := by
    intro v hv q
    have := congrArg Int32.toInt q
    rw [nI_toInt hv, show (-1 : Int32).toInt = -1 from by decide] at this
    omega
  have fresh : wp_X3_of_j21 Q (nI n) (nI r) bt rt md sc cnt pb pr f gs := by
    unfold wp_X3_of_j21
    -- sizes that were tried in vain
    have key : ∀ d k, k + d = lk n r → ∀ (sc cnt pb pr : Int32) (f gs : Nat → Int32), Tc 1 cnt pb pr f → wp_X3_of_h38 Q (d + 2) (nI k) (nI n) (nI r) (-1) sc cnt pb pr f gs := by
      intro d
      induction d with
      | zero =>
        intro k hk sc cnt pb pr f gs hT
        rw [Nat.add_zero] at hk
        subst hk
        by_cases h4 : lk n r < 4
        · rw [if_pos h4] at hQ
          have hy : lsf n r (lk n r) < 2 ^ n := of_decide_eq_true (fa_first_yes (fun k => decide (lsf n r k < 2 ^ n)) 4 h4)
          unfold wp_X3_of_h38
          refine br_f (nI_nlt (a := 3) (by omega) (by omega)) ⟨fun q => absurd rfl q, fun _ => ?_⟩
          refine sp_leastOfSize h0 hn hr (by omega) hT (fun sc2 cnt2 pb2 pr2 f2 gs2 hT2 => ?_)
          intro x10 e10
          rw [nI_1] at e10
          rw [if_pos hy, e10]
          unfold wp_X3_of_h38 wp_X3_of_j66
          refine b_lt (a := 3) (by omega) (by omega) (fun _ => hQ _ _ _ _ _ _ hT2) (fun _ => ⟨fun _ => hQ _ _ _ _ _ _ hT2, fun q => absurd q (hne (by omega))⟩)
        · rw [if_neg h4] at hQ
          have e4 : lk n r = 4 := by unfold lk at h4 ⊢; omega
          rw [e4]
          unfold wp_X3_of_h38 wp_X3_of_j66
          exact br_t (by decide) (hQ _ _ _ _ _ _ hT)
      | succ d ih =>
        intro k hk sc cnt pb pr f gs hT
        have hk4 : k < 4 := by unfold lk at hk; omega
        have hno : ¬ lsf n r k < 2 ^ n := of_decide_eq_false (fa_first_no (fun k => decide (lsf n r k < 2 ^ n)) 4 k (by unfold lk at hk; omega))
        unfold wp_X3_of_h38
        refine br_f (nI_nlt (a := 3) (by omega) (by omega)) ⟨fun q => absurd rfl q, fun _ => ?_⟩
        refine sp_leastOfSize h0 hn hr (by omega) hT (fun sc2 cnt2 pb2 pr2 f2 gs2 hT2 => ?_)
        intro x10 e10
        rw [nI_1] at e10
        rw [if_neg hno, e10]
        exact ih (k + 1) (by omega) sc2 cnt2 pb2 pr2 f2 gs2 hT2
    exact ⟨_, key (lk n r) 0 (by omega) sc cnt pb pr f gs hT⟩
  unfold wp_X3_of
  rcases hM with hM | ⟨n', r', a1, a2, a3, a4, a5, a6⟩
  · rw [hM]
    exact ⟨fun _ => by rw [hM] at fresh; exact fresh, fun q => absurd q (nI_ne0 h0 (by omega))⟩
  · have hp' : 2 ^ n' ≤ 2 ^ 24 := Nat.pow_le_pow_right (by omega) a2
    rw [a4, a5] at fresh ⊢
    refine b_ne (by omega) (by omega) (fun _ => fresh) (fun q => b_ne (by omega) (by omega) (fun _ => fresh) (fun q2 => ?_))
    subst q; subst q2
    rw [a6]
    exact hQ _ _ _ _ _ _ hT
/-! ===== the reference's way ===== -/
theorem sp_nextOf {s T : Nat} {Q : Int32 → Prop} (hs : s < T) (hT : T ≤ 2 ^ 25) (hb : bc T ≤ 3) (hno : ∀ u, s < u → u < T → 3 < bc u) (h : Q (nI T)) : wp_X10_nextOf (nI s) Q := by
  unfold wp_X10_nextOf
  intro x4 e4
  rw [nI_1] at e4
  rw [e4]
  have key : ∀ d x, x + d = T → s < x → ∃ z, wp_X10_nextOf_h4 Q z (nI x) := by
    intro d
    induction d using Nat.strongRecOn with
    | _ d ih =>
      intro x hx hsx
      by_cases h3 : bc x ≤ 3
      · have e : x = T := by
          rcases Nat.lt_or_ge x T with q | q
          · have := hno x hsx q
            omega
          · omega
        subst e
        refine ⟨1, ?_⟩
        unfold wp_X10_nextOf_h4
        refine sp_bits (by omega) ?_
        exact br_t (nI_le (b := 3) h3 (by omega)) h
      · obtain ⟨hh, a, b, ha, e⟩ := dec_ones x (by omega)
        -- the low bit
        have hpa := Nat.two_pow_pos a
        have hpb := Nat.two_pow_pos b
        have ea : 2 ^ (a + b + 1) = 2 ^ b * (2 * 2 ^ a) := by
          rw [show a + b + 1 = b + (a + 1) by omega, Nat.pow_add, Nat.pow_succ]
          congr 1
          exact Nat.mul_comm _ _
        have ey : x = 2 ^ b * (2 * 2 ^ a * hh + (2 ^ a - 1)) := by rw [e, ea, Nat.mul_add, Nat.mul_assoc]
        have hyodd : (2 * 2 ^ a * hh + (2 ^ a - 1)) % 2 = 1 := by
          obtain ⟨a', rfl⟩ : ∃ a', a = a' + 1 := ⟨a - 1, by omega⟩
          rw [Nat.pow_succ, show 2 * (2 ^ a' * 2) * hh = 2 * (2 ^ a' * 2 * hh) by rw [Nat.mul_assoc]]
          have := Nat.two_pow_pos a'
          omega
        generalize 2 * 2 ^ a * hh + (2 ^ a - 1) = y at ey hyodd
        have hlow := low_bit ey hyodd (by omega)
        have hbx : 2 ^ b ≤ x := by rw [ey]; exact Nat.le_mul_of_pos_right _ (by omega)
        have hb26 : b ≤ 25 := by
          rcases Nat.lt_or_ge 25 b with q | q
          · have := Nat.pow_le_pow_right (show 0 < 2 by omega) (show 26 ≤ b from q)
            omega
          · exact q
        have hy32 : y < 2 ^ (32 - b) := by
          rcases Nat.lt_or_ge y (2 ^ (32 - b)) with q | q
          · exact q
          · exfalso
            have h1 : 2 ^ b * 2 ^ (32 - b) ≤ 2 ^ b * y := Nat.mul_le_mul_left _ q
            rw [← Nat.pow_add, show b + (32 - b) = 32 by omega] at h1
            omega
        have bx : bc x = bc y := by
          have h3 := bc_split (k := b) (x := y) (y := 0) (by omega) hpb hy32
          rw [Nat.add_zero, ← ey, bc_0] at h3
          exact h3
        have hTx : x + 2 ^ b ≤ T := by
          rcases Nat.lt_or_ge T (x + 2 ^ b) with q | q
          · exfalso
            have hxT : x ≤ T := by omega
            have e2 : T = 2 ^ b * y + (T - x) := by omega
            have h3 := bc_split (k := b) (x := y) (y := T - x) (by omega) (by omega) hy32
            rw [← e2] at h3
            omega
          · exact q
        obtain ⟨z, hz⟩ := ih (T - (x + 2 ^ b)) (by omega) (x + 2 ^ b) (by omega) (by omega)
        refine ⟨z + 1, ?_⟩
        unfold wp_X10_nextOf_h4
        refine sp_bits (by omega) ?_
        refine br_f (nI_ge (a := 3) (by omega) (by have := bc_le (n := 32) (s := x) (by omega) (by omega); omega)) ?_
        intro x3 e3
        rw [J_neg2 (by omega) (by omega), fa_and, hlow, nI_add] at e3
        rw [e3]
        exact hz
  exact key (T - (s + 1)) (s + 1) (by omega) (by omega)
/-- the next number of three bits or fewer -/
theorem next3 {s : Nat} (hs : s < 2 ^ 24) : ∃ T, s < T ∧ T ≤ 2 ^ 25 ∧ bc T ≤ 3 ∧ ∀ u, s < u → u < T → 3 < bc u := by
  obtain ⟨T, h1, h2⟩ := pk_least (fun u => s < u ∧ bc u ≤ 3) ⟨2 ^ 24, by omega, by decide⟩
  refine ⟨T, h1.1, ?_, h1.2, fun u hu1 hu2 => ?_⟩
  · rcases Nat.lt_or_ge (2 ^ 24) T with q | q
    · exact absurd ⟨hs, by decide⟩ (h2 (2 ^ 24) q)
    · omega
  · rcases Nat.lt_or_ge 3 (bc u) with q | q
    · exact q
    · exact absurd ⟨hu1, q⟩ (h2 u hu2)
theorem sp_leastIn {n r k : Nat} {tb9 ls : Int32} {L2 : Int32 → Int32 → Int32 → (Nat → Int32) → (Nat → Int32) → (Nat → Int32) → (Nat → Int32) → Prop} {Q : Int32 → Int32 → Int32 → (Nat → Int32) → (Nat → Int32) → (Nat → Int32) → (Nat → Int32) → Prop} (h0 : 0 < n) (hn : n ≤ 24) (hr : r < 2 ^ n) (hk : k ≤ 3) (hE : lsf n r k = 2 ^ n → ∀ a b c d, L2 (nI (k + 1)) tb9 ls a b c d) (hF : lsf n r k < 2 ^ n → ∀ a b c d, Q (nI k) 0 (nI (lsf n r k)) a b c d) :
    ∀ m s, s + m = 2 ^ 25 → (∀ x, x < s → x < 2 ^ n → bc x = k → tl1 n r x = false) → ∃ z, ∀ (tl fs fk fc : Nat → Int32), wp_X10_leastMany_h9 (nI n) (nI r) L2 Q z (nI k) (nI s) tb9 ls tl fs fk fc := by
  have hp : 2 ^ n ≤ 2 ^ 24 := Nat.pow_le_pow_right (by omega) hn
  intro m
  induction m using Nat.strongRecOn with
  | _ m ih =>
    intro s hsm hno
    by_cases hs : s < 2 ^ n
    · have hbs : bc s ≤ 32 := bc_le (n := 32) (by omega) (by omega)
      have hx : r ^^^ s < 2 ^ n := Nat.xor_lt_two_pow hr hs
      by_cases hf : bc s = k ∧ tl1 n r s = true
      · refine ⟨1, fun tl fs fk fc => ?_⟩
        have e := lsf_of (fun x hx hb => hno x hx (by omega) hb) hs hf.1 hf.2
        rw [e] at hF
        have hpos : 0 < (tls n (r ^^^ s)).length := of_decide_eq_true hf.2
        unfold wp_X10_leastMany_h9
        refine sp_full10 (by omega) ?_
        refine br_f (nI_nlt (by omega) (by omega)) ?_
        refine sp_bits (by omega) ?_
        rw [hf.1]
        refine ⟨fun q => absurd rfl q, fun _ => ?_⟩
        rw [fb_xorI]
        refine sp_findTilings (most := 1) h0 hn hx (by omega) (by omega) (fun a b c => ?_)
        rw [app_min _ _ _ (by omega), Nat.zero_add]
        refine br_f (nI_nle (by omega) (by omega)) (hF hs _ _ _ _)
      · obtain ⟨T, t1, t2, t3, t4⟩ := next3 (s := s) (by omega)
        obtain ⟨z, hz⟩ := ih (2 ^ 25 - T) (by omega) T (by omega) (fun x hx hxn hb => by
          rcases Nat.lt_or_ge x s with q | q
          · exact hno x q hxn hb
          · rcases Nat.eq_or_lt_of_le q with q2 | q2
            · subst q2
              cases ht : tl1 n r s with
              | false => rfl
              | true => exact absurd ⟨hb, ht⟩ hf
            · have := t4 x q2 hx
              omega)
        refine ⟨z + 1, fun tl fs fk fc => ?_⟩
        have next : ∀ (tl fs fk fc : Nat → Int32), wp_X10_leastMany_j58 (nI n) (nI r) L2 (wp_X10_leastMany_h9 (nI n) (nI r) L2 Q z) Q (nI k) (nI s) tb9 ls tl fs fk fc := by
          intro tl fs fk fc
          unfold wp_X10_leastMany_j58
          exact sp_nextOf t1 t2 t3 t4 (hz _ _ _ _)
        unfold wp_X10_leastMany_h9
        refine sp_full10 (by omega) ?_
        refine br_f (nI_nlt (by omega) (by omega)) ?_
        refine sp_bits (by omega) ?_
        refine b_ne (by omega) (by omega) (fun _ => next _ _ _ _) (fun q => ?_)
        rw [fb_xorI]
        refine sp_findTilings (most := 1) h0 hn hx (by omega) (by omega) (fun a b c => ?_)
        rw [app_min _ _ _ (by omega), Nat.zero_add]
        refine b_le (b := 0) (by omega) (by omega) (fun _ => next _ _ _ _) (fun q2 => ?_)
        exact absurd ⟨q, decide_eq_true (by omega)⟩ hf
    · refine ⟨1, fun tl fs fk fc => ?_⟩
      have e := lsf_none (n := n) (r := r) (k := k) (fun x hx hb => hno x (by omega) hx hb)
      unfold wp_X10_leastMany_h9
      refine sp_full10 (by omega) ?_
      refine br_t (nI_lt (by have := Nat.two_pow_pos n; omega) (by omega)) ?_
      intro x4 e4
      rw [nI_1] at e4
      rw [e4]
      exact hE e _ _ _ _
theorem sp_leastMany {n r : Nat} {tb9 ls : Int32} {tl fs fk fc : Nat → Int32} {Q : Int32 → Int32 → Int32 → (Nat → Int32) → (Nat → Int32) → (Nat → Int32) → (Nat → Int32) → Prop} (h0 : 0 < n) (hn : n ≤ 24) (hr : r < 2 ^ n) (hQ : ∀ (a b c d : Nat → Int32), Q (if lk n r < 4 then nI (lk n r) else -1) 0 (if lk n r < 4 then nI (lsf n r (lk n r)) else -1) a b c d) : wp_X10_leastMany (nI n) (nI r) tb9 ls tl fs fk fc Q := by
  have hp : 2 ^ n ≤ 2 ^ 24 := Nat.pow_le_pow_right (by omega) hn
  have hlk4 := fa_first_le (fun k => decide (lsf n r k < 2 ^ n)) 4
  unfold wp_X10_leastMany
  have key : ∀ d k, k + d = lk n r → ∀ (tl fs fk fc : Nat → Int32), wp_X10_leastMany_h2 (nI n) (nI r) Q (d + 1) (nI k) tb9 ls tl fs fk fc := by
    intro d
    induction d with
    | zero =>
      intro k hk tl fs fk fc
      rw [Nat.add_zero] at hk
      subst hk
      by_cases h4 : lk n r < 4
      · rw [if_pos h4, if_pos h4] at hQ
        have hy : lsf n r (lk n r) < 2 ^ n := of_decide_eq_true (fa_first_yes (fun k => decide (lsf n r k < 2 ^ n)) 4 h4)
        unfold wp_X10_leastMany_h2
        refine br_f (nI_ge (b := 4) h4 (by omega)) ?_
        obtain ⟨z, hz⟩ := sp_leastIn (k := lk n r) (tb9 := tb9) (ls := ls) (L2 := wp_X10_leastMany_h2 (nI n) (nI r) Q 0) (Q := Q) h0 hn hr (by omega) (fun q => by omega) (fun _ => hQ) (2 ^ 25) 0 (by omega) (fun x hx => absurd hx (Nat.not_lt_zero x))
        exact ⟨z, hz _ _ _ _⟩
      · rw [if_neg h4, if_neg h4] at hQ
        have e4 : lk n r = 4 := by unfold lk at h4 ⊢; omega
        rw [e4]
        unfold wp_X10_leastMany_h2
        exact br_t (by decide) (hQ _ _ _ _)
    | succ d ih =>
      intro k hk tl fs fk fc
      have hk4 : k < 4 := by unfold lk at hk; omega
      have hno : ¬ lsf n r k < 2 ^ n := of_decide_eq_false (fa_first_no (fun k => decide (lsf n r k < 2 ^ n)) 4 k (by unfold lk at hk; omega))
      unfold wp_X10_leastMany_h2
      refine br_f (nI_ge (b := 4) hk4 (by omega)) ?_
      obtain ⟨z, hz⟩ := sp_leastIn (k := k) (tb9 := tb9) (ls := ls) (L2 := wp_X10_leastMany_h2 (nI n) (nI r) Q (d + 1)) (Q := Q) h0 hn hr (by omega) (fun _ a b c d9 => ih (k + 1) (by omega) a b c d9) (fun q => absurd q hno) (2 ^ 25) 0 (by omega) (fun x hx => absurd hx (Nat.not_lt_zero x))
      exact ⟨z, hz _ _ _ _⟩
  exact ⟨_, key (lk n r) 0 (by omega) tl fs fk fc⟩
