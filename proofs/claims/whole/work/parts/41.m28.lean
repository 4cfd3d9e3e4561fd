/-! ===== the text, read ===== -/
def fg (L : Nat → Nat) (c i : Nat) : Bool := decide (i < c) && (decide (48 ≤ L i) && decide (L i ≤ 57))
def rdE (c b s t : Nat) : Nat × Nat × Nat × Nat := (if t ≠ 0 ∨ b = 0 then 1 else 0, c, b, s)
def tm (t : Nat) : Nat := if t = 0 then 1 else t
def rd (L : Nat → Nat) (c : Nat) : Nat → Nat → Nat → Nat → Nat → Nat × Nat × Nat × Nat
  | 0, _, b, s, t => rdE c b s t
  | d + 1, i, b, s, t =>
    if c ≤ i then rdE c b s t
    else if L i = 120 then (if 24 < b + tm t then (3, i, b, s) else rd L c d (i + 1) (b + tm t) (s ||| (2 ^ tm t - 1) * 2 ^ b) 0)
    else if L i = 46 then (if 24 < b + tm t then (3, i, b, s) else rd L c d (i + 1) (b + tm t) s 0)
    else if fg L c i = true then
      (if t ≠ 0 ∨ L i = 48 then (1, i, b, s)
      else if fg L c (i + 1) = true then
        (if 24 < 10 * (L i - 48) + L (i + 1) - 48 ∨ fg L c (i + 2) = true then (2, i, b, s) else rd L c d (i + 2) b s (10 * (L i - 48) + L (i + 1) - 48))
      else rd L c d (i + 1) b s (L i - 48))
    else if L i = 32 then rd L c d (i + 1) b s t
    else (1, i, b, s)
theorem tm_ge (t : Nat) : 1 ≤ tm t := by unfold tm; split <;> omega
theorem tm_lt {b t s : Nat} (hs : s < 2 ^ b) : s ||| (2 ^ tm t - 1) * 2 ^ b < 2 ^ (b + tm t) := by
  have h1 : s < 2 ^ (b + tm t) := Nat.lt_of_lt_of_le hs (Nat.pow_le_pow_right (by omega) (by omega))
  refine Nat.or_lt_two_pow h1 ?_
  rw [Nat.pow_add, Nat.mul_comm (2 ^ b)]
  have := Nat.two_pow_pos (tm t)
  exact Nat.mul_lt_mul_of_pos_right (by omega) (Nat.two_pow_pos b)
theorem rd_ok (L : Nat → Nat) (c : Nat) : ∀ d i b s t, b ≤ 24 → s < 2 ^ b → (rd L c d i b s t).1 ≤ 3 ∧ ((rd L c d i b s t).1 = 0 → 0 < (rd L c d i b s t).2.2.1 ∧ (rd L c d i b s t).2.2.1 ≤ 24 ∧ (rd L c d i b s t).2.2.2 < 2 ^ (rd L c d i b s t).2.2.1) := by
  have fin : ∀ b s t, b ≤ 24 → s < 2 ^ b → (rdE c b s t).1 ≤ 3 ∧ ((rdE c b s t).1 = 0 → 0 < (rdE c b s t).2.2.1 ∧ (rdE c b s t).2.2.1 ≤ 24 ∧ (rdE c b s t).2.2.2 < 2 ^ (rdE c b s t).2.2.1) := by
    intro b s t hb hs
    unfold rdE
    by_cases q : t ≠ 0 ∨ b = 0
    · rw [if_pos q]
      exact ⟨by show 1 ≤ 3; omega, fun h => by have h2 : 1 = 0 := h; omega⟩
    · rw [if_neg q]
      exact ⟨by show 0 ≤ 3; omega, fun _ => ⟨by show 0 < b; omega, hb, hs⟩⟩
  have bad : ∀ k i b s : Nat, 0 < k → k ≤ 3 → (k, i, b, s).1 ≤ 3 ∧ ((k, i, b, s).1 = 0 → 0 < (k, i, b, s).2.2.1 ∧ (k, i, b, s).2.2.1 ≤ 24 ∧ (k, i, b, s).2.2.2 < 2 ^ (k, i, b, s).2.2.1) := by
    intro k i b s h1 h2
    exact ⟨h2, fun h => by have h' : k = 0 := h; omega⟩
  intro d
  induction d with
  | zero => intro i b s t hb hs; exact fin b s t hb hs
  | succ d ih =>
    intro i b s t hb hs
    unfold rd
    split
    · exact fin b s t hb hs
    · split
      · split
        · exact bad 3 _ _ _ (by omega) (by omega)
        · exact ih _ _ _ _ (by omega) (tm_lt hs)
      · split
        · split
          · exact bad 3 _ _ _ (by omega) (by omega)
          · exact ih _ _ _ _ (by omega) (Nat.lt_of_lt_of_le hs (Nat.pow_le_pow_right (by omega) (by omega)))
        · split
          · split
            · exact bad 1 _ _ _ (by omega) (by omega)
            · split
              · split
                · exact bad 2 _ _ _ (by omega) (by omega)
                · exact ih _ _ _ _ hb hs
              · exact ih _ _ _ _ hb hs
          · split
            · exact ih _ _ _ _ hb hs
            · exact bad 1 _ _ _ (by omega) (by omega)
def Lt (c : Nat) (L : Nat → Nat) (f : Nat → Int32) : Prop := ∀ i, i < c → L i ≤ 255 ∧ f i = nI (L i)
theorem fg_iff {L : Nat → Nat} {c i : Nat} : fg L c i = true ↔ i < c ∧ 48 ≤ L i ∧ L i ≤ 57 := by
  unfold fg
  simp only [Bool.and_eq_true, decide_eq_true_eq]
theorem sp_letter {L : Nat → Nat} {c : Nat} {f : Nat → Int32} {Q : Int32 → Prop} (hc : c ≤ 60) (hL : Lt c L f) {i : Nat} (hi : i < c) (h : Q (nI (L i))) : wp_X7_letterAt (nI c) f (nI i) Q := by
  unfold wp_X7_letterAt wp_X7_letterAt_j31
  refine br_f (nI_pos (by omega)) (br_f (nI_ge hi (by omega)) (br_t (nI_lt (a := i) (b := 60) (by omega) (by omega)) ⟨vp_in_nI (by omega) (by omega), ?_⟩))
  rw [J_cl (by omega), (hL i hi).2]
  exact h
theorem sp_figures {L : Nat → Nat} {c : Nat} {f : Nat → Int32} {Q : Int32 → Prop} (hc : c ≤ 60) (hL : Lt c L f) {i : Nat} (hi : i ≤ c) (h : ∀ k, i + k ≤ c → (∀ j, j < k → fg L c (i + j) = true) → fg L c (i + k) = false → Q (nI k)) : wp_X7_figuresFrom (nI c) f (nI i) Q := by
  unfold wp_X7_figuresFrom
  have key : ∀ d k, i + k + d = c → (∀ j, j < k → fg L c (i + j) = true) → ∃ z, wp_X7_figuresFrom_h2 (nI c) f Q z (nI i) (nI (i + k)) := by
    intro d
    induction d with
    | zero =>
      intro k hk hf
      refine ⟨1, ?_⟩
      unfold wp_X7_figuresFrom_h2 wp_X7_figuresFrom_j36
      refine br_t (nI_le (by omega) (by omega)) ?_
      rw [pk_sub (by omega), show i + k - i = k by omega]
      refine h k (by omega) hf ?_
      rw [Bool.eq_false_iff]
      intro q
      have := (fg_iff.mp q).1
      omega
    | succ d ih =>
      intro k hk hf
      obtain ⟨l1, l2⟩ := hL (i + k) (by omega)
      have stop : fg L c (i + k) = false → wp_X7_figuresFrom_j36 (nI c) f Q (nI i) (nI (i + k)) := by
        intro q
        unfold wp_X7_figuresFrom_j36
        rw [pk_sub (by omega), show i + k - i = k by omega]
        exact h k (by omega) hf q
      by_cases q : fg L c (i + k) = true
      · obtain ⟨z, hz⟩ := ih (k + 1) (by omega) (fun j hj => by
          rcases Nat.lt_or_ge j k with q2 | q2
          · exact hf j q2
          · rw [show j = k by omega]; exact q)
        obtain ⟨_, g1, g2⟩ := fg_iff.mp q
        refine ⟨z + 1, ?_⟩
        unfold wp_X7_figuresFrom_h2
        refine br_f (nI_ge (by omega) (by omega)) (sp_letter hc hL (by omega) ?_)
        refine br_f (nI_nlt (b := 48) g1 (by omega)) (sp_letter hc hL (by omega) (br_f (nI_nlt (a := 57) g2 (by omega)) ?_))
        rintro x4 rfl
        rw [nI_1]
        exact hz
      · have q' : fg L c (i + k) = false := by rw [Bool.eq_false_iff]; exact q
        have st := stop q'
        refine ⟨1, ?_⟩
        unfold wp_X7_figuresFrom_h2
        refine br_f (nI_ge (by omega) (by omega)) (sp_letter hc hL (by omega) ?_)
        refine b_lt (b := 48) (by omega) (by omega) (fun _ => st) (fun g1 => sp_letter hc hL (by omega) ?_)
        refine b_lt (a := 57) (by omega) (by omega) (fun _ => st) (fun g2 => ?_)
        exact absurd (fg_iff.mpr ⟨by omega, g1, g2⟩) q
  exact key (c - i) 0 (by omega) (fun j hj => by omega)
theorem sp_fig {L : Nat → Nat} {c i : Nat} {f : Nat → Int32} {Q : Int32 → Prop} (hc : c ≤ 60) (hL : Lt c L f) (hi : i < 2 ^ 30) (h : Q (nI (fg L c i).toNat)) : wp_X10_isFigure (nI c) f (nI i) Q := by
  unfold wp_X10_isFigure wp_X10_isFigure_j31 wp_X10_isFigure_j32
  by_cases q : i < c
  · obtain ⟨l1, l2⟩ := hL i q
    refine br_f (nI_ge q (by omega)) ⟨vp_in_nI (by omega) (by omega), ?_⟩
    rw [J_cl (by omega), l2]
    have ht := tI (show L i < 2 ^ 31 by omega)
    by_cases g : 48 ≤ L i ∧ L i ≤ 57
    · have e : fg L c i = true := fg_iff.mpr ⟨q, g.1, g.2⟩
      rw [e] at h
      exact in_good (a := 48) (b := 57) rfl rfl (by omega) (by omega) ⟨fun q => absurd q (by decide), fun _ => ⟨isB1, h⟩⟩
    · have e : fg L c i = false := by
        rw [Bool.eq_false_iff]
        intro q2
        exact g (fg_iff.mp q2).2
      rw [e] at h
      exact in_bad (a := 48) (b := 57) rfl rfl (by omega) ⟨fun _ => ⟨isB0, h⟩, fun q => absurd rfl q⟩
  · have e : fg L c i = false := by
      rw [Bool.eq_false_iff]
      intro q2
      exact q (fg_iff.mp q2).1
    rw [e] at h
    exact br_t (nI_le (by omega) (by omega)) ⟨isB0, h⟩
