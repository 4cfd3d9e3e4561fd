/-! ===== how many bits: the class's way, the reference's way ===== -/
def sw1 (x m : Nat) : Nat := x - (x / 2 &&& m)
def sw2 (x m : Nat) : Nat := (x &&& m) + (x / 4 &&& m)
def sw3 (x m : Nat) : Nat := (x + x / 16) &&& m
def swb (a : Nat) : Nat := sw3 (sw2 (sw1 a 0x55) 0x33) 0x0f
theorem swb_ok : ∀ a, a < 256 → sw1 a 0x55 < 256 ∧ a / 2 &&& 0x55 ≤ a ∧ sw2 (sw1 a 0x55) 0x33 < 0x45 ∧ swb a = fb_ct (fun i => a.testBit i) 8 ∧ swb a ≤ 8 := by decide +kernel
theorem sw1_dig {a r M : Nat} (ha : a < 256) (hr : r / 2 &&& M ≤ r) : sw1 (a + 256 * r) (0x55 + 256 * M) = sw1 a 0x55 + 256 * sw1 r M := by
  unfold sw1
  have h1 : (a + 256 * r) / 2 = (a / 2 + 2 ^ 7 * (r % 2)) + 2 ^ 8 * (r / 2) := by omega
  have h2 := and_dig (k := 8) (a := a / 2 + 2 ^ 7 * (r % 2)) (b := r / 2) (c := 0x55) (d := M) (by omega) (by decide)
  have h3 := and_mask (k := 7) (j := r % 2) (a := a / 2) (m := 0x55) (by omega) (by decide)
  have h4 := (swb_ok a ha).2.1
  rw [h1, show 0x55 + 256 * M = 0x55 + 2 ^ 8 * M from rfl, h2, h3]
  omega
theorem sw2_dig {a r M : Nat} (ha : a < 256) : sw2 (a + 256 * r) (0x33 + 256 * M) = sw2 a 0x33 + 256 * sw2 r M := by
  unfold sw2
  have h1 : (a + 256 * r) / 4 = (a / 4 + 2 ^ 6 * (r % 4)) + 2 ^ 8 * (r / 4) := by omega
  have h2 := and_dig (k := 8) (a := a / 4 + 2 ^ 6 * (r % 4)) (b := r / 4) (c := 0x33) (d := M) (by omega) (by decide)
  have h3 := and_mask (k := 6) (j := r % 4) (a := a / 4) (m := 0x33) (by omega) (by decide)
  have h4 := and_dig (k := 8) (a := a) (b := r) (c := 0x33) (d := M) ha (by decide)
  rw [h1, show 0x33 + 256 * M = 0x33 + 2 ^ 8 * M from rfl, h2, h3, show a + 256 * r = a + 2 ^ 8 * r from rfl, h4]
  omega
theorem sw3_dig {a r M : Nat} (ha : a < 0x45) (hr : r % 16 < 5) : sw3 (a + 256 * r) (0x0f + 256 * M) = sw3 a 0x0f + 256 * sw3 r M := by
  unfold sw3
  have h1 : (a + 256 * r) + (a + 256 * r) / 16 = (a + a / 16 + 2 ^ 4 * (r % 16)) + 2 ^ 8 * (r + r / 16) := by omega
  have h2 := and_dig (k := 8) (a := a + a / 16 + 2 ^ 4 * (r % 16)) (b := r + r / 16) (c := 0x0f) (d := M) (by omega) (by decide)
  have h3 : (a + a / 16 + 2 ^ 4 * (r % 16)) &&& 0x0f = (a + a / 16) &&& 0x0f := by
    have e1 : a + a / 16 + 2 ^ 4 * (r % 16) = (a + a / 16) % 16 + 2 ^ 4 * ((a + a / 16) / 16 + r % 16) := by omega
    have e2 := and_mask (k := 4) (j := (a + a / 16) / 16 + r % 16) (a := (a + a / 16) % 16) (m := 0x0f) (by omega) (by decide)
    have e3 := and_mask (k := 4) (j := (a + a / 16) / 16) (a := (a + a / 16) % 16) (m := 0x0f) (by omega) (by decide)
    rw [e1, e2, ← e3]
    congr 1
    omega
  rw [h1, show 0x0f + 256 * M = 0x0f + 2 ^ 8 * M from rfl, h2, h3]
theorem sw_0 (m : Nat) : sw1 0 m = 0 ∧ sw2 0 m = 0 ∧ sw3 0 m = 0 := by simp [sw1, sw2, sw3]
theorem sw_all {a b c : Nat} (ha : a < 256) (hb : b < 256) (hc : c < 256) :
    let s := a + 256 * (b + 256 * c)
    s / 2 &&& 0x55555555 ≤ s ∧ sw3 (sw2 (sw1 s 0x55555555) 0x33333333) 0x0f0f0f0f = swb a + 256 * (swb b + 256 * swb c) ∧ sw1 s 0x55555555 ≤ s ∧ sw2 (sw1 s 0x55555555) 0x33333333 < 2 ^ 24 := by
  intro s
  obtain ⟨a1, a2, a3, a4, a5⟩ := swb_ok a ha
  obtain ⟨b1, b2, b3, b4, b5⟩ := swb_ok b hb
  obtain ⟨c1, c2, c3, c4, c5⟩ := swb_ok c hc
  have z := sw_0
  have hc0 : sw1 c (0x55 + 256 * 0x55) = sw1 c 0x55 := by
    have h := sw1_dig (a := c) (r := 0) (M := 0x55) hc (by decide)
    rw [Nat.mul_zero, Nat.add_zero, (z 0x55).1] at h
    exact h
  have hc2 : c / 2 &&& (0x55 + 256 * 0x55) ≤ c := by
    have e := and_dig (k := 8) (a := c / 2) (b := 0) (c := 0x55) (d := 0x55) (by omega) (by decide)
    simp at e
    rw [show (0x55 + 256 * 0x55) = 21845 from rfl, e]
    exact c2
  have hbc := sw1_dig (a := b) (r := c) (M := 0x55 + 256 * 0x55) hb hc2
  rw [hc0] at hbc
  have hbc2 : (b + 256 * c) / 2 &&& (0x55 + 256 * (0x55 + 256 * 0x55)) ≤ b + 256 * c := by
    have h1 : (b + 256 * c) / 2 = (b / 2 + 2 ^ 7 * (c % 2)) + 2 ^ 8 * (c / 2) := by omega
    have h2 := and_dig (k := 8) (a := b / 2 + 2 ^ 7 * (c % 2)) (b := c / 2) (c := 0x55) (d := 0x55 + 256 * 0x55) (by omega) (by decide)
    have h3 := and_mask (k := 7) (j := c % 2) (a := b / 2) (m := 0x55) (by omega) (by decide)
    rw [h1, show 0x55 + 256 * (0x55 + 256 * 0x55) = 0x55 + 2 ^ 8 * (0x55 + 256 * 0x55) from rfl, h2, h3]
    omega
  have habc := sw1_dig (a := a) (r := b + 256 * c) (M := 0x55 + 256 * (0x55 + 256 * 0x55)) ha hbc2
  rw [hbc] at habc
  have hs2 : s / 2 &&& 0x55555555 ≤ s := by
    have h1 : s / 2 = (a / 2 + 2 ^ 7 * ((b + 256 * c) % 2)) + 2 ^ 8 * ((b + 256 * c) / 2) := by omega
    have h2 := and_dig (k := 8) (a := a / 2 + 2 ^ 7 * ((b + 256 * c) % 2)) (b := (b + 256 * c) / 2) (c := 0x55) (d := 0x55 + 256 * (0x55 + 256 * 0x55)) (by omega) (by decide)
    have h3 := and_mask (k := 7) (j := (b + 256 * c) % 2) (a := a / 2) (m := 0x55) (by omega) (by decide)
    rw [h1, show 0x55555555 = 0x55 + 2 ^ 8 * (0x55 + 256 * (0x55 + 256 * 0x55)) from rfl, h2, h3]
    omega
  have e1 : sw1 s 0x55555555 = sw1 a 0x55 + 256 * (sw1 b 0x55 + 256 * sw1 c 0x55) := habc
  have t2 : sw2 (sw1 c 0x55) (0x33 + 256 * 0x33) = sw2 (sw1 c 0x55) 0x33 := by
    have h := sw2_dig (a := sw1 c 0x55) (r := 0) (M := 0x33) c1
    rw [Nat.mul_zero, Nat.add_zero, (z 0x33).2.1] at h
    exact h
  have e2 : sw2 (sw1 s 0x55555555) 0x33333333 = sw2 (sw1 a 0x55) 0x33 + 256 * (sw2 (sw1 b 0x55) 0x33 + 256 * sw2 (sw1 c 0x55) 0x33) := by
    rw [e1, show 0x33333333 = 0x33 + 256 * (0x33 + 256 * (0x33 + 256 * 0x33)) from rfl, sw2_dig a1, sw2_dig b1, t2]
  have t3 : sw3 (sw2 (sw1 c 0x55) 0x33) (0x0f + 256 * 0x0f) = swb c := by
    have h := sw3_dig (a := sw2 (sw1 c 0x55) 0x33) (r := 0) (M := 0x0f) c3 (by decide)
    rw [Nat.mul_zero, Nat.add_zero, (z 0x0f).2.2] at h
    exact h
  have lowb : sw2 (sw1 b 0x55) 0x33 % 16 < 5 := by have : ∀ a, a < 256 → sw2 (sw1 a 0x55) 0x33 % 16 < 5 := by decide +kernel
                                                   exact this b hb
  have lowc : sw2 (sw1 c 0x55) 0x33 % 16 < 5 := by have : ∀ a, a < 256 → sw2 (sw1 a 0x55) 0x33 % 16 < 5 := by decide +kernel
                                                   exact this c hc
  have e3 : sw3 (sw2 (sw1 s 0x55555555) 0x33333333) 0x0f0f0f0f = swb a + 256 * (swb b + 256 * swb c) := by
    rw [e2, show 0x0f0f0f0f = 0x0f + 256 * (0x0f + 256 * (0x0f + 256 * 0x0f)) from rfl, sw3_dig a3 (by omega), sw3_dig b3 lowc, t3]
    rfl
  exact ⟨hs2, e3, Nat.sub_le _ _, by rw [e2]; omega⟩
theorem bc_bytes {a b c : Nat} (ha : a < 256) (hb : b < 256) (hc : c < 256) : bc (a + 256 * (b + 256 * c)) = swb a + swb b + swb c := by
  have hs : a + 256 * (b + 256 * c) < 2 ^ 24 := by omega
  rw [bc_n hs (by decide), (swb_ok a ha).2.2.2.1, (swb_ok b hb).2.2.2.1, (swb_ok c hc).2.2.2.1]
  have key : ∀ {x y : Nat} (i : Nat), x < 256 → (x + 256 * y).testBit i = if i < 8 then x.testBit i else y.testBit (i - 8) := by
    intro x y i hx
    rw [Nat.add_comm]
    exact Nat.testBit_two_pow_mul_add y (i := 8) hx i
  have h1 := fb_ct_split (fun i => (a + 256 * (b + 256 * c)).testBit i) 8 16
  have h2 := fb_ct_split (fun k => (a + 256 * (b + 256 * c)).testBit (8 + k)) 8 8
  rw [show (24 : Nat) = 8 + 16 from rfl, h1, show (16 : Nat) = 8 + 8 from rfl, h2]
  have c1 : fb_ct (fun i => (a + 256 * (b + 256 * c)).testBit i) 8 = fb_ct (fun i => a.testBit i) 8 := fb_ct_cong (fun k hk => by rw [key k ha, if_pos hk])
  have c2 : fb_ct (fun k => (a + 256 * (b + 256 * c)).testBit (8 + k)) 8 = fb_ct (fun i => b.testBit i) 8 := fb_ct_cong (fun k hk => by
    rw [key _ ha, if_neg (by omega), show 8 + k - 8 = k by omega, key k hb, if_pos hk])
  have c3 : fb_ct (fun k => (a + 256 * (b + 256 * c)).testBit (8 + (8 + k))) 8 = fb_ct (fun i => c.testBit i) 8 := fb_ct_cong (fun k hk => by
    rw [key _ ha, if_neg (by omega), show 8 + (8 + k) - 8 = 8 + k by omega, key _ hb, if_neg (by omega), show 8 + k - 8 = k by omega])
  rw [c1, c2, c3, Nat.add_assoc]
theorem sp_bitCount {s : Nat} {Q : Int32 → Prop} (hs : s < 2 ^ 24) (h : Q (nI (bc s))) : wp_J6_bitCount_0f7a4 (nI s) Q := by
  obtain ⟨a, b, c, ha, hb, hc, rfl⟩ : ∃ a b c, a < 256 ∧ b < 256 ∧ c < 256 ∧ s = a + 256 * (b + 256 * c) := ⟨s % 256, s / 256 % 256, s / 65536, by omega, by omega, by omega, by omega⟩
  obtain ⟨h1, h2, h3, h4⟩ := sw_all ha hb hc
  have w1 := (swb_ok a ha).2.2.2.2
  have w2 := (swb_ok b hb).2.2.2.2
  have w3 := (swb_ok c hc).2.2.2.2
  rw [bc_bytes ha hb hc] at h
  generalize a + 256 * (b + 256 * c) = s at hs h1 h2 h3 h4
  generalize swb a = x at h2 w1 h
  generalize swb b = y at h2 w2 h
  generalize swb c = z at h2 w3 h
  unfold wp_J6_bitCount_0f7a4
  intro x1 e1
  rw [show (1 : Int32) = nI 1 from rfl, J_ushr (by omega) (by decide), show (1431655765 : Int32) = nI 0x55555555 from rfl, fa_and, Nat.pow_one, pk_sub h1] at e1
  subst e1
  intro x2 e2
  change x2 = (nI (sw1 s 0x55555555) &&& nI 0x33333333) + (jushr (nI (sw1 s 0x55555555)) (nI 2) &&& nI 0x33333333) at e2
  rw [J_ushr (by omega) (by decide), fa_and, fa_and, nI_add] at e2
  change x2 = nI (sw2 (sw1 s 0x55555555) 0x33333333) at e2
  subst e2
  intro x3 e3
  change x3 = (nI (sw2 (sw1 s 0x55555555) 0x33333333) + jushr (nI (sw2 (sw1 s 0x55555555) 0x33333333)) (nI 4)) &&& nI 0x0f0f0f0f at e3
  rw [J_ushr (by omega) (by decide), nI_add, fa_and] at e3
  change x3 = nI (sw3 (sw2 (sw1 s 0x55555555) 0x33333333) 0x0f0f0f0f) at e3
  rw [h2] at e3
  subst e3
  intro x4 e4
  change x4 = nI (x + 256 * (y + 256 * z)) + jushr (nI (x + 256 * (y + 256 * z))) (nI 8) at e4
  rw [J_ushr (by omega) (by decide), nI_add, show (x + 256 * (y + 256 * z)) / 2 ^ 8 = y + 256 * z by omega] at e4
  subst e4
  intro x5 e5
  change x5 = nI (x + 256 * (y + 256 * z) + (y + 256 * z)) + jushr (nI (x + 256 * (y + 256 * z) + (y + 256 * z))) (nI 16) at e5
  rw [J_ushr (by omega) (by decide), nI_add, show (x + 256 * (y + 256 * z) + (y + 256 * z)) / 2 ^ 16 = z by omega] at e5
  subst e5
  have e6 : nI (x + 256 * (y + 256 * z) + (y + 256 * z) + z) &&& 63 = nI (x + y + z) := by
    have e := fa_mask (x + 256 * (y + 256 * z) + (y + 256 * z) + z) 6
    rw [show (x + 256 * (y + 256 * z) + (y + 256 * z) + z) % 2 ^ 6 = x + y + z by omega] at e
    exact e
  rw [e6]
  exact h
theorem sp_bits {s : Nat} {Q : Int32 → Prop} (hs : s < 2 ^ 31) (h : Q (nI (bc s))) : wp_X10_bits (nI s) Q := by
  have key : ∀ (m : Nat), m < 2 ^ 31 → ∀ (l : Nat), l + bc m = bc s → ∃ k, wp_X10_bits_h4 Q k (nI l) (nI m) := by
    intro m
    induction m using Nat.strongRecOn with
    | _ m ih =>
      intro hm l hl
      by_cases h0 : m = 0
      · subst h0
        refine ⟨1, ?_⟩
        unfold wp_X10_bits_h4
        rw [bc_0, Nat.add_zero] at hl
        exact br_t (by decide) (by rw [hl]; exact h)
      · have hb := bc_half (s := m) (by omega)
        obtain ⟨k, hk⟩ := ih (m / 2) (by omega) (by omega) (l + m % 2) (by omega)
        refine ⟨k + 1, ?_⟩
        unfold wp_X10_bits_h4
        refine br_f (nI_nle (by omega) hm) ?_
        intro x2 e2
        rw [J_bit1, nI_add] at e2
        subst e2
        intro x3 e3
        rw [show (1 : Int32) = nI 1 from rfl, J_shr hm (by decide), Nat.pow_one] at e3
        subst e3
        exact hk
  unfold wp_X10_bits
  obtain ⟨k, hk⟩ := key s hs 0 (by omega)
  exact ⟨k, hk⟩
