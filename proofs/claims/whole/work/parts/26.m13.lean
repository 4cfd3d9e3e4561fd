/-! ===== the next number with as many bits ===== -/
theorem bc_split {k x y : Nat} (hk : k ≤ 32) (hy : y < 2 ^ k) (hx : x < 2 ^ (32 - k)) : bc (2 ^ k * x + y) = bc x + bc y := by
  have h := fb_ct_split (fun i => (2 ^ k * x + y).testBit i) k (32 - k)
  rw [show k + (32 - k) = 32 by omega] at h
  rw [bc_n hy hk, bc_n hx (by omega)]
  unfold bc
  rw [h]
  have e1 : fb_ct (fun i => (2 ^ k * x + y).testBit i) k = fb_ct (fun i => y.testBit i) k := fb_ct_cong (fun j hj => by rw [Nat.testBit_two_pow_mul_add x hy, if_pos hj])
  have e2 : fb_ct (fun j => (2 ^ k * x + y).testBit (k + j)) (32 - k) = fb_ct (fun i => x.testBit i) (32 - k) := fb_ct_cong (fun j hj => by rw [Nat.testBit_two_pow_mul_add x hy, if_neg (by omega), show k + j - k = j by omega])
  rw [e1, e2, Nat.add_comm]
theorem bc_ones {a : Nat} (ha : a ≤ 32) : bc (2 ^ a - 1) = a := (bc_full ha (by have := Nat.two_pow_pos a; omega)).mpr rfl
theorem bc_ge : ∀ w, w < 2 ^ 32 → 2 ^ bc w ≤ w + 1 := by
  intro w
  induction w using Nat.strongRecOn with
  | _ w ih =>
    intro hw
    by_cases h0 : w = 0
    · rw [h0, bc_0]; decide
    · have h1 := bc_half hw
      have h2 := ih (w / 2) (by omega) (by omega)
      rw [h1]
      rcases Nat.mod_two_eq_zero_or_one w with q | q
      · rw [q, Nat.zero_add]; omega
      · rw [q, Nat.add_comm, Nat.pow_succ]; omega
theorem dec_ones : ∀ s, 0 < s → ∃ h a b, 0 < a ∧ s = 2 ^ (a + b + 1) * h + 2 ^ b * (2 ^ a - 1) := by
  intro s
  induction s using Nat.strongRecOn with
  | _ s ih =>
    intro h0
    rcases Nat.mod_two_eq_zero_or_one s with q | q
    · obtain ⟨h, a, b, ha, e⟩ := ih (s / 2) (by omega) (by omega)
      refine ⟨h, a, b + 1, ha, ?_⟩
      have e2 : s = 2 * (s / 2) := by omega
      rw [e2, e, Nat.mul_add, ← Nat.mul_assoc, ← Nat.mul_assoc, show a + (b + 1) + 1 = (a + b + 1) + 1 by omega, Nat.pow_succ 2 (a + b + 1), Nat.pow_succ 2 b, Nat.mul_comm 2 (2 ^ (a + b + 1)), Nat.mul_comm 2 (2 ^ b)]
    · rcases Nat.mod_two_eq_zero_or_one (s / 2) with q2 | q2
      · refine ⟨s / 4, 1, 0, by omega, ?_⟩
        show s = 4 * (s / 4) + 1 * 1
        omega
      · obtain ⟨h, a, b, ha, e⟩ := ih (s / 2) (by omega) (by omega)
        have hb : b = 0 := by
          rcases Nat.eq_zero_or_pos b with r | r
          · exact r
          · exfalso
            obtain ⟨b', rfl⟩ : ∃ b', b = b' + 1 := ⟨b - 1, by omega⟩
            have e3 : 2 ^ (a + (b' + 1) + 1) * h + 2 ^ (b' + 1) * (2 ^ a - 1) = 2 * (2 ^ (a + b' + 1) * h + 2 ^ b' * (2 ^ a - 1)) := by
              rw [Nat.mul_add, ← Nat.mul_assoc, ← Nat.mul_assoc, show a + (b' + 1) + 1 = (a + b' + 1) + 1 by omega, Nat.pow_succ 2 (a + b' + 1), Nat.pow_succ 2 b', Nat.mul_comm 2 (2 ^ (a + b' + 1)), Nat.mul_comm 2 (2 ^ b')]
            omega
        subst hb
        refine ⟨h, a + 1, 0, by omega, ?_⟩
        have hp := Nat.two_pow_pos a
        simp only [Nat.add_zero, Nat.pow_zero, Nat.one_mul] at e ⊢
        have e2 : s = 2 * (s / 2) + 1 := by omega
        rw [e2, e, show a + 1 + 1 = (a + 1) + 1 from rfl, Nat.pow_succ 2 (a + 1), Nat.pow_succ 2 a, Nat.mul_assoc (2 ^ a * 2) 2 h, Nat.mul_comm 2 h, ← Nat.mul_assoc]
        generalize 2 ^ a * 2 * h = X
        omega
theorem odd_tb {x t y : Nat} (hx : x = 2 ^ t * y) (hy : y % 2 = 1) : x.testBit t = true ∧ ∀ i, i < t → x.testBit i = false := by
  have hp : 0 < 2 ^ t := Nat.two_pow_pos t
  have key : ∀ i, x.testBit i = if i < t then false else y.testBit (i - t) := by
    intro i
    have h := Nat.testBit_two_pow_mul_add y (i := t) (b := 0) hp i
    rw [Nat.add_zero, ← hx] at h
    rw [h]
    split <;> simp
  refine ⟨?_, fun i hi => by rw [key, if_pos hi]⟩
  rw [key, if_neg (Nat.lt_irrefl t), Nat.sub_self, Nat.testBit_zero, hy]
  rfl
theorem low_bit {x t y : Nat} (hx : x = 2 ^ t * y) (hy : y % 2 = 1) (hl : x < 2 ^ 32) : x &&& (2 ^ 32 - x) = 2 ^ t := by
  obtain ⟨h1, h2⟩ := odd_tb hx hy
  have h3 := low_and hl h1 h2
  have hx0 : 0 < x := by rw [hx]; exact Nat.mul_pos (Nat.two_pow_pos t) (by omega)
  -- x-1 by its bits
  have hp : 0 < 2 ^ t := Nat.two_pow_pos t
  have e1 : x - 1 = 2 ^ t * (y - 1) + (2 ^ t - 1) := by
    rw [hx, Nat.mul_sub, Nat.mul_one]
    have : 2 ^ t * 1 ≤ 2 ^ t * y := Nat.mul_le_mul_left _ (by omega)
    omega
  have ht : t < 32 := by
    rcases Nat.lt_or_ge t 32 with q | q
    · exact q
    · rw [tb_big hl q] at h1; cases h1
  apply Nat.eq_of_testBit_eq
  intro i
  rw [Nat.testBit_and, show 2 ^ 32 - x = 2 ^ 32 - ((x - 1) + 1) by omega, Nat.testBit_two_pow_sub_succ (by omega), Nat.testBit_two_pow, e1, Nat.testBit_two_pow_mul_add (y - 1) (by omega : 2 ^ t - 1 < 2 ^ t) i]
  have ex : x.testBit i = if i < t then false else y.testBit (i - t) := by
    have h := Nat.testBit_two_pow_mul_add y (i := t) (b := 0) hp i
    rw [Nat.add_zero, ← hx] at h
    rw [h]
    split <;> simp
  rw [ex]
  by_cases hi : i < t
  · rw [if_pos hi]
    simp
    omega
  · rw [if_neg hi, if_neg hi]
    by_cases he : i = t
    · subst he
      rw [Nat.sub_self]
      simp [Nat.testBit_zero, hy, ht, show (y - 1) % 2 = 0 by omega]
    · obtain ⟨j, hj⟩ : ∃ j, i - t = j + 1 := ⟨i - t - 1, by omega⟩
      rw [hj, Nat.testBit_succ, Nat.testBit_succ, show (y - 1) / 2 = y / 2 by omega]
      have : ¬ t = i := fun q => he q.symm
      cases (y / 2).testBit j <;> simp [this]
def gn (s : Nat) : Nat := (s + (s &&& (2 ^ 32 - s))) ||| ((s ^^^ (s + (s &&& (2 ^ 32 - s)))) / (s &&& (2 ^ 32 - s)) / 4)
theorem xor_high {k x p q : Nat} (hp : p < 2 ^ k) (hq : q < 2 ^ k) : (2 ^ k * x + p) ^^^ (2 ^ k * x + q) = p ^^^ q := by
  apply Nat.eq_of_testBit_eq
  intro i
  rw [Nat.testBit_xor, Nat.testBit_xor, Nat.testBit_two_pow_mul_add x hp, Nat.testBit_two_pow_mul_add x hq]
  by_cases h : i < k
  · rw [if_pos h, if_pos h]
  · rw [if_neg h, if_neg h, tb_big hp (by omega), tb_big hq (by omega)]
    simp
/-- what is told of the next one: the low bit, and that it is the next -/
theorem gn_ok {s : Nat} (h0 : 0 < s) (hs : s < 2 ^ 25) : ∃ b y, s = 2 ^ b * y ∧ y % 2 = 1 ∧ s + 2 ^ b < 2 ^ 27 ∧ gn s < 2 ^ 27 ∧ s < gn s ∧ bc (gn s) = bc s ∧ (∀ u, s < u → u < gn s → bc u ≠ bc s) ∧ gn s = (s + 2 ^ b) ||| ((s ^^^ (s + 2 ^ b)) / 2 ^ b / 4) := by
  obtain ⟨h, a, b, ha, e⟩ := dec_ones s h0
  have hpa := Nat.two_pow_pos a
  have hpb := Nat.two_pow_pos b
  have ea : 2 ^ (a + b + 1) = 2 ^ b * (2 * 2 ^ a) := by
    rw [show a + b + 1 = b + (a + 1) by omega, Nat.pow_add, Nat.pow_succ]
    congr 1
    exact Nat.mul_comm _ _
  have ey : s = 2 ^ b * (2 * 2 ^ a * h + (2 ^ a - 1)) := by rw [e, ea, Nat.mul_add, Nat.mul_assoc]
  have hyodd : (2 * 2 ^ a * h + (2 ^ a - 1)) % 2 = 1 := by
    obtain ⟨a', rfl⟩ : ∃ a', a = a' + 1 := ⟨a - 1, by omega⟩
    rw [Nat.pow_succ, show 2 * (2 ^ a' * 2) * h = 2 * (2 ^ a' * 2 * h) by rw [Nat.mul_assoc]]
    have := Nat.two_pow_pos a'
    omega
  have hlow := low_bit ey hyodd (by omega)
  have hpab : 2 ^ (a + b) = 2 ^ a * 2 ^ b := Nat.pow_add 2 a b
  have hpab1 : 2 ^ (a + b + 1) = 2 * 2 ^ (a + b) := by rw [Nat.pow_succ, Nat.mul_comm]
  have elow : 2 ^ b * (2 ^ a - 1) + 2 ^ b = 2 ^ (a + b) := by
    rw [Nat.mul_sub, Nat.mul_one, hpab, Nat.mul_comm (2 ^ b) (2 ^ a)]
    have : 1 * 2 ^ b ≤ 2 ^ a * 2 ^ b := Nat.mul_le_mul_right _ hpa
    omega
  have eup : s + 2 ^ b = 2 ^ (a + b + 1) * h + 2 ^ (a + b) := by rw [e]; omega
  have hab25 : 2 ^ (a + b) ≤ 2 ^ 25 + 2 ^ b := by
    rw [← elow]
    have : 2 ^ b * (2 ^ a - 1) ≤ s := by rw [e]; exact Nat.le_add_left _ _
    omega
  have hb25 : 2 ^ b ≤ s := by
    rw [ey]
    exact Nat.le_mul_of_pos_right _ (by omega)
  have hab : a + b ≤ 26 := by
    rcases Nat.lt_or_ge 26 (a + b) with q | q
    · have := Nat.pow_le_pow_right (show 0 < 2 by omega) (show 27 ≤ a + b from q)
      omega
    · exact q
  have hhb : h < 2 ^ (32 - (a + b + 1)) := by
    rcases Nat.lt_or_ge h (2 ^ (32 - (a + b + 1))) with q | q
    · exact q
    · exfalso
      have h1 : 2 ^ (a + b + 1) * 2 ^ (32 - (a + b + 1)) ≤ 2 ^ (a + b + 1) * h := Nat.mul_le_mul_left _ q
      rw [← Nat.pow_add, show a + b + 1 + (32 - (a + b + 1)) = 32 by omega] at h1
      omega
  have ex : s ^^^ (s + 2 ^ b) = 2 ^ b * (2 * 2 ^ a - 1) := by
    rw [eup]
    conv => lhs; lhs; rw [e]
    have hlt : 2 ^ b * (2 ^ a - 1) < 2 ^ (a + b) := by omega
    rw [xor_high (by omega) (by omega)]
    have h2 : 2 ^ b * (2 ^ a - 1) ^^^ 2 ^ (a + b) = 2 ^ b * (2 ^ a - 1) + 2 ^ (a + b) := by
      have h3 := Nat.two_pow_add_eq_or_of_lt hlt 1
      rw [Nat.mul_one] at h3
      rw [Nat.add_comm (2 ^ b * (2 ^ a - 1)) (2 ^ (a + b)), h3]
      apply Nat.eq_of_testBit_eq
      intro i
      rw [Nat.testBit_xor, Nat.testBit_or, Nat.testBit_two_pow]
      by_cases q : a + b = i
      · subst q
        rw [tb_big hlt (Nat.le_refl _)]
        simp
      · simp [q]
    rw [h2, Nat.mul_sub, Nat.mul_sub, Nat.mul_one, hpab, Nat.mul_comm (2 ^ b) (2 * 2 ^ a), Nat.mul_comm (2 ^ b) (2 ^ a), Nat.mul_assoc]
    have : 1 * 2 ^ b ≤ 2 ^ a * 2 ^ b := Nat.mul_le_mul_right _ hpa
    omega
  obtain ⟨a', rfl⟩ : ∃ a', a = a' + 1 := ⟨a - 1, by omega⟩
  have hpa' := Nat.two_pow_pos a'
  have ediv : (s ^^^ (s + 2 ^ b)) / 2 ^ b / 4 = 2 ^ a' - 1 := by
    rw [ex, Nat.mul_div_cancel_left _ hpb, Nat.pow_succ]
    omega
  have eup2 : s + 2 ^ b = 2 ^ (a' + 1 + b) * (2 * h + 1) := by
    rw [eup, hpab1, Nat.mul_add, Nat.mul_one, ← Nat.mul_assoc, Nat.mul_comm (2 ^ (a' + 1 + b)) 2]
  have hlt2 : 2 ^ a' - 1 < 2 ^ (a' + 1 + b) := by
    have := Nat.pow_le_pow_right (show 0 < 2 by omega) (show a' ≤ a' + 1 + b by omega)
    omega
  have egn : gn s = 2 ^ (a' + 1 + b) * (2 * h + 1) + (2 ^ a' - 1) := by
    unfold gn
    rw [hlow, ediv, eup2]
    exact (Nat.two_pow_add_eq_or_of_lt hlt2 _).symm
  have hx2 : 2 * h + 1 < 2 ^ (32 - (a' + 1 + b)) := by
    rw [show 32 - (a' + 1 + b) = (32 - (a' + 1 + b + 1)) + 1 by omega, Nat.pow_succ]
    omega
  have bs : bc s = bc h + (a' + 1) := by
    have hlt : 2 ^ b * (2 ^ (a' + 1) - 1) < 2 ^ (a' + 1 + b + 1) := by omega
    rw [e, bc_split (by omega) hlt hhb]
    have h3 := bc_split (k := b) (x := 2 ^ (a' + 1) - 1) (y := 0) (by omega) hpb (by
      have := Nat.pow_le_pow_right (show 0 < 2 by omega) (show a' + 1 ≤ 32 - b by omega)
      omega)
    rw [Nat.add_zero] at h3
    rw [h3, bc_ones (by omega), bc_0]
    try omega
  have b2h : bc (2 * h + 1) = bc h + 1 := by
    have h3 := bc_split (k := 1) (x := h) (y := 1) (by omega) (by omega) (by
      have := Nat.pow_le_pow_right (show 0 < 2 by omega) (show 32 - (a' + 1 + b + 1) ≤ 32 - 1 by omega)
      omega)
    rw [Nat.pow_one] at h3
    rw [h3]
    rfl
  have b2h0 : bc (2 * h) = bc h := by
    have h3 := bc_split (k := 1) (x := h) (y := 0) (by omega) (by omega) (by
      have := Nat.pow_le_pow_right (show 0 < 2 by omega) (show 32 - (a' + 1 + b + 1) ≤ 32 - 1 by omega)
      omega)
    rw [Nat.pow_one, Nat.add_zero, bc_0] at h3
    exact h3
  have bg : bc (gn s) = bc s := by
    rw [egn, bc_split (by omega) hlt2 hx2, b2h, bc_ones (by omega), bs]
    omega
  have hgt : s < gn s := by
    rw [egn, ← eup2]
    omega
  have hgl : gn s < 2 ^ 27 := by
    rw [egn, ← eup2]
    have : 2 ^ a' ≤ 2 ^ (a' + 1 + b) := Nat.pow_le_pow_right (by omega) (by omega)
    omega
  refine ⟨b, _, ey, hyodd, by omega, hgl, hgt, bg, ?_, ?_⟩
  · intro u hu1 hu2 hbu
    -- u by its high part
    have hp2 := Nat.two_pow_pos (a' + 1 + b)
    obtain ⟨x, w, hw, hu⟩ : ∃ x w, w < 2 ^ (a' + 1 + b) ∧ u = 2 ^ (a' + 1 + b) * x + w := ⟨u / 2 ^ (a' + 1 + b), u % 2 ^ (a' + 1 + b), Nat.mod_lt _ hp2, (Nat.div_add_mod u _).symm⟩
    have es : s = 2 ^ (a' + 1 + b) * (2 * h) + 2 ^ b * (2 ^ (a' + 1) - 1) := by rw [e, hpab1, ← Nat.mul_assoc, Nat.mul_comm (2 ^ (a' + 1 + b)) 2]
    have hx1 : 2 * h ≤ x := by
      rcases Nat.lt_or_ge x (2 * h) with q | q
      · exfalso
        have : 2 ^ (a' + 1 + b) * (x + 1) ≤ 2 ^ (a' + 1 + b) * (2 * h) := Nat.mul_le_mul_left _ q
        rw [Nat.mul_add, Nat.mul_one] at this
        omega
      · exact q
    have hx3 : x ≤ 2 * h + 1 := by
      rcases Nat.lt_or_ge (2 * h + 1) x with q | q
      · exfalso
        have : 2 ^ (a' + 1 + b) * (2 * h + 1 + 1) ≤ 2 ^ (a' + 1 + b) * x := Nat.mul_le_mul_left _ q
        rw [Nat.mul_add (2 ^ (a' + 1 + b)) (2 * h + 1) 1, Nat.mul_one] at this
        omega
      · exact q
    have hbx : bc u = bc x + bc w := by rw [hu, bc_split (by omega) hw (by omega)]
    rcases (show x = 2 * h ∨ x = 2 * h + 1 by omega) with rfl | rfl
    · -- the top of w is full
      obtain ⟨v, hv⟩ : ∃ v, w = 2 ^ b * (2 ^ (a' + 1) - 1) + v := ⟨w - 2 ^ b * (2 ^ (a' + 1) - 1), by omega⟩
      have hv0 : 0 < v := by omega
      have hvb : v < 2 ^ b := by omega
      have hbw : bc w = (a' + 1) + bc v := by
        rw [hv, bc_split (by omega) hvb (by
          have := Nat.pow_le_pow_right (show 0 < 2 by omega) (show a' + 1 ≤ 32 - b by omega)
          omega), bc_ones (by omega)]
      have hbv : bc v ≠ 0 := fun q => by
        have := (bc_eq0 (s := v) (by omega)).mp q
        omega
      omega
    · have hw2 : w < 2 ^ a' - 1 := by rw [egn] at hu2; omega
      have h3 := bc_ge w (by omega)
      have h4 : bc w < a' := by
        rcases Nat.lt_or_ge (bc w) a' with q | q
        · exact q
        · have := Nat.pow_le_pow_right (show 0 < 2 by omega) q
          omega
      omega
  · unfold gn
    rw [hlow]
theorem J_neg2 {s : Nat} (hs : s < 2 ^ 32) (h0 : 0 < s) : -nI s = nI (2 ^ 32 - s) := by
  refine J_inj ?_
  rw [J_tn, Nat.mod_eq_of_lt (by omega)]
  show (-(nI s).toBitVec).toNat = _
  rw [BitVec.toNat_neg, J_tn, Nat.mod_eq_of_lt hs, Nat.mod_eq_of_lt (by omega)]
theorem sp_nextAlike {s : Nat} {Q : Int32 → Prop} (h0 : 0 < s) (hs : s < 2 ^ 25) (h : Q (nI (gn s))) : wp_X10_nextAlike (nI s) Q := by
  obtain ⟨b, y, e1, e2, e3, e4, e5, e6, e7, e8⟩ := gn_ok h0 hs
  have hb : 2 ^ b ≤ s := by rw [e1]; exact Nat.le_mul_of_pos_right _ (by omega)
  have hpb := Nat.two_pow_pos b
  unfold wp_X10_nextAlike
  intro x1 ex1
  rw [J_neg2 (by omega) h0, fa_and, low_bit e1 e2 (by omega)] at ex1
  subst ex1
  intro x2 ex2
  rw [nI_add] at ex2
  subst ex2
  refine ⟨nI_ne0 hpb (by omega), ?_⟩
  have hx : s ^^^ (s + 2 ^ b) < 2 ^ 27 := Nat.xor_lt_two_pow (by omega) e3
  have hd : (s ^^^ (s + 2 ^ b)) / 2 ^ b ≤ s ^^^ (s + 2 ^ b) := Nat.div_le_self _ _
  rw [fb_xorI, pk_div (by omega) hpb (by omega), show (2 : Int32) = nI 2 from rfl, J_shr (by omega) (by decide), fa_or, show 2 ^ 2 = 4 from rfl, ← e8]
  exact h
theorem sp_nextOfSize {s : Nat} {Q : Int32 → Prop} (h0 : 0 < s) (hs : s < 2 ^ 24) (h : Q (nI (gn s))) : wp_X3_nextOfSize (nI s) Q := by
  obtain ⟨b, y, e1, e2, e3, e4, e5, e6, e7, e8⟩ := gn_ok h0 (by omega)
  have hb : 2 ^ b ≤ s := by rw [e1]; exact Nat.le_mul_of_pos_right _ (by omega)
  have hpb := Nat.two_pow_pos b
  obtain ⟨t1, t2⟩ := odd_tb e1 e2
  have hb24 : b < 24 := by
    rcases Nat.lt_or_ge b 24 with q | q
    · exact q
    · rw [tb_big hs q] at t1; cases t1
  unfold wp_X3_nextOfSize
  refine ⟨fun _ => ?_, fun q => absurd q (nI_ne0 h0 (by omega))⟩
  intro x2 ex2
  rw [J_neg2 (by omega) h0, fa_and, low_bit e1 e2 (by omega), nI_add] at ex2
  subst ex2
  refine sp_ntz hs t1 t2 ?_
  have hx : s ^^^ (s + 2 ^ b) < 2 ^ 27 := Nat.xor_lt_two_pow (by omega) e3
  rw [fb_xorI, show (2 : Int32) = nI 2 from rfl, nI_add, J_ushr (by omega) (by omega), fa_or, show 2 + b = b + 2 by omega, Nat.pow_add, ← Nat.div_div_eq_div_mul, show 2 ^ 2 = 4 from rfl, ← e8]
  exact h
