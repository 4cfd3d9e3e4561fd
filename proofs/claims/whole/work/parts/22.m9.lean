/-! ===== tilings: the search, as a list ===== -/
theorem bc_mv {n s t : Nat} (hs : s < 2 ^ n) (hn : n ≤ 32) (ht : t < n) : bc (mv n s t) = bc s := by
  rw [bc_n (mv_lt n s t) hn, bc_n hs hn]
  have h1 := fb_ct_split (fun i => (mv n s t).testBit i) t (n - t)
  have h2 := fb_ct_split (fun i => s.testBit i) (n - t) t
  rw [show t + (n - t) = n by omega] at h1
  rw [show n - t + t = n by omega] at h2
  have e1 : fb_ct (fun i => (mv n s t).testBit i) t = fb_ct (fun k => s.testBit (n - t + k)) t := fb_ct_cong (fun k hk => by
    rw [mv_tb hs ht (by omega), show k + n - t = n - t + k by omega, Nat.mod_eq_of_lt (by omega)])
  have e2 : fb_ct (fun k => (mv n s t).testBit (t + k)) (n - t) = fb_ct (fun i => s.testBit i) (n - t) := fb_ct_cong (fun k hk => by
    rw [mv_tb hs ht (by omega), show t + k + n - t = k + n by omega, Nat.add_mod_right, Nat.mod_eq_of_lt (by omega)])
  rw [h1, h2, e1, e2, Nat.add_comm]
theorem bc_or {n a b : Nat} (hn : n ≤ 32) (ha : a < 2 ^ n) (hb : b < 2 ^ n) (hd : a &&& b = 0) : bc (a ||| b) = bc a + bc b := by
  rw [bc_n (Nat.or_lt_two_pow ha hb) hn, bc_n ha hn, bc_n hb hn]
  have h := fb_ct_or (p := fun i => a.testBit i) (q := fun i => b.testBit i) (n := n) (fun k _ h => by
    have e : (a &&& b).testBit k = true := by rw [Nat.testBit_and, h.1, h.2]; rfl
    rw [hd] at e
    simp at e)
  rw [← h]
  exact fb_ct_cong (fun k _ => Nat.testBit_or a b k)
theorem bc_full {n c : Nat} (hn : n ≤ 32) (hc : c < 2 ^ n) : bc c = n ↔ c = 2 ^ n - 1 := by
  rw [bc_n hc hn]
  constructor
  · intro h
    have h2 := fb_ct_all.mp h
    refine set_ext hc (by have := Nat.two_pow_pos n; omega) (fun i hi => ?_)
    rw [h2 i hi, Nat.testBit_two_pow_sub_one]
    simp [hi]
  · intro h
    refine fb_ct_all.mpr (fun k hk => ?_)
    rw [h, Nat.testBit_two_pow_sub_one]
    simp [hk]
/-- the lowest beat that is not covered -/
def lz (n c : Nat) : Nat := fa_first (fun i => !c.testBit i) n
theorem lz_ok {n c : Nat} (hc : c < 2 ^ n) (hf : c ≠ 2 ^ n - 1) : lz n c < n ∧ c.testBit (lz n c) = false ∧ ∀ i, i < lz n c → c.testBit i = true := by
  have hno : ∀ i, i < lz n c → c.testBit i = true := fun i hi => by
    have := fa_first_no (fun i => !c.testBit i) n i hi
    simpa using this
  have hlt : lz n c < n := by
    rcases Nat.lt_or_ge (lz n c) n with q | q
    · exact q
    · exfalso
      refine hf (set_ext hc (by have := Nat.two_pow_pos n; omega) (fun i hi => ?_))
      rw [hno i (by omega), Nat.testBit_two_pow_sub_one]
      simp [hi]
  refine ⟨hlt, ?_, hno⟩
  have h2 : (!c.testBit (lz n c)) = true := fa_first_yes (fun i => !c.testBit i) n hlt
  simpa using h2
def tk (f : Nat → List Nat) : Nat → Nat → List Nat
  | 0, _ => []
  | m + 1, b => f b ++ tk f m (b + 1)
theorem tk_cong {f g : Nat → List Nat} : ∀ (m b : Nat), (∀ j, b ≤ j → j < b + m → f j = g j) → tk f m b = tk g m b
  | 0, _, _ => rfl
  | m + 1, b, h => by
    unfold tk
    rw [h b (by omega) (by omega), tk_cong m (b + 1) (fun j h1 h2 => h j (by omega) (by omega))]
theorem tk_skip {f : Nat → List Nat} {n b : Nat} : ∀ d, b + d ≤ n → (∀ j, b ≤ j → j < b + d → f j = []) → tk f (n - b) b = tk f (n - (b + d)) (b + d)
  | 0, _, _ => rfl
  | d + 1, hd, h => by
    have ih := tk_skip (f := f) (n := n) (b := b) d (by omega) (fun j h1 h2 => h j h1 (by omega))
    rw [ih, show n - (b + d) = (n - (b + (d + 1))) + 1 by omega]
    show f (b + d) ++ tk f _ (b + d + 1) = _
    rw [h (b + d) (by omega) (by omega)]
    rfl
/-- one beat that may strike the lowest open one: by which turn, and what lies behind it -/
def tkid (n r : Nat) (rec_ : Nat → Nat → List Nat) (c sh b : Nat) : List Nat :=
  if r.testBit b then (if mv n r ((lz n c + n - b) % n) &&& c = 0 then rec_ (c ||| mv n r ((lz n c + n - b) % n)) (sh ||| 2 ^ ((lz n c + n - b) % n)) else []) else []
def tcov (n r : Nat) : Nat → Nat → Nat → List Nat
  | 0, _, _ => []
  | d + 1, c, sh => if c = 2 ^ n - 1 then [sh] else tk (tkid n r (tcov n r d) c sh) n 0
/-- a list put behind what is there, so many at most -/
def app (cap : Nat) : List Nat → Nat → (Nat → Int32) → Nat × (Nat → Int32)
  | [], c, f => (c, f)
  | x :: l, c, f => if c < cap then app cap l (c + 1) (upd f c (nI x)) else (c, f)
theorem app_full {cap c : Nat} {f : Nat → Int32} (h : cap ≤ c) : ∀ l, app cap l c f = (c, f)
  | [] => rfl
  | x :: l => by unfold app; rw [if_neg (by omega)]
theorem app_cons {cap x c : Nat} {l : List Nat} {f : Nat → Int32} : app cap (x :: l) c f = if c < cap then app cap l (c + 1) (upd f c (nI x)) else (c, f) := rfl
theorem app_append {cap : Nat} (l2 : List Nat) : ∀ (l1 : List Nat) (c : Nat) (f : Nat → Int32), app cap (l1 ++ l2) c f = app cap l2 (app cap l1 c f).1 (app cap l1 c f).2
  | [], c, f => rfl
  | x :: l1, c, f => by
    rw [List.cons_append, app_cons, app_cons]
    by_cases h : c < cap
    · rw [if_pos h, if_pos h]
      exact app_append l2 l1 _ _
    · rw [if_neg h, if_neg h]
      exact (app_full (by omega) l2).symm
theorem app_le {cap : Nat} : ∀ (l : List Nat) (c : Nat) (f : Nat → Int32), c ≤ cap → (app cap l c f).1 ≤ cap
  | [], _, _, h => h
  | x :: l, c, f, h => by
    unfold app
    by_cases hc : c < cap
    · rw [if_pos hc]; exact app_le l _ _ (by omega)
    · rw [if_neg hc]; exact h
theorem app_cnt {cap : Nat} : ∀ (l : List Nat) (c : Nat) (f : Nat → Int32), c + l.length ≤ cap → (app cap l c f).1 = c + l.length
  | [], _, _, _ => rfl
  | x :: l, c, f, h => by
    rw [List.length_cons] at h
    unfold app
    rw [if_pos (by omega), app_cnt l _ _ (by omega), List.length_cons]
    omega
theorem app_at {cap : Nat} : ∀ (l : List Nat) (c : Nat) (f : Nat → Int32), c + l.length ≤ cap → ∀ j, (app cap l c f).2 j = if c ≤ j ∧ j < c + l.length then nI (l.getD (j - c) 0) else f j
  | [], c, f, _, j => by
    rw [if_neg (by rintro ⟨q1, q2⟩; simp at q2; omega)]
    rfl
  | x :: l, c, f, h, j => by
    rw [List.length_cons] at h
    unfold app
    rw [if_pos (by omega), app_at l _ _ (by omega), List.length_cons]
    by_cases h1 : j = c
    · subst h1
      rw [if_neg (by omega), if_pos (by omega), Nat.sub_self]
      show (if j = j then nI x else f j) = nI x
      rw [if_pos rfl]
    · by_cases h2 : c + 1 ≤ j ∧ j < c + 1 + l.length
      · rw [if_pos h2, if_pos (by omega), show j - c = (j - (c + 1)) + 1 by omega]
        rfl
      · rw [if_neg h2, if_neg (by omega)]
        show (if j = c then nI x else f j) = f j
        rw [if_neg h1]
/-! ===== the class's list of struck beats ===== -/
theorem sp_listStruck {n r : Nat} {sc : Int32} {f : Nat → Int32} {Q : Int32 → (Nat → Int32) → Prop} (hn : n ≤ 24) (hr : r < 2 ^ n) (h : ∀ g : Nat → Int32, (∀ i, i < bc r → g i = nI (kth r i)) → Q (nI (bc r)) g) : wp_X8_listStruck sc (nI n) (nI r) f Q := by
  have hp : 2 ^ n ≤ 2 ^ 24 := Nat.pow_le_pow_right (by omega) hn
  have hbn := bc_n hr (by omega : n ≤ 32)
  have key : ∀ d j, j + d = n → ∀ g : Nat → Int32, (∀ i, i < fb_ct (fun i => r.testBit i) j → g i = nI (kth r i)) → ∃ z, wp_X8_listStruck_h7 (nI n) (nI r) Q z (nI j) (nI (fb_ct (fun i => r.testBit i) j)) g := by
    intro d
    induction d with
    | zero =>
      intro j hj g hg
      rw [Nat.add_zero] at hj
      subst hj
      refine ⟨1, ?_⟩
      unfold wp_X8_listStruck_h7 wp_X8_listStruck_j62
      refine br_t (nI_le (Nat.le_refl j) (by omega)) ?_
      rw [← hbn] at hg ⊢
      exact h g hg
    | succ d ih =>
      intro j hj g hg
      have hct := fb_ct_succ (fun i => r.testBit i) j
      have hle := fb_ct_le (fun i => r.testBit i) j
      have hmono := fb_ct_mono (fun i => r.testBit i) (show j + 1 ≤ n by omega)
      cases hb : r.testBit j with
      | false =>
        rw [hb, if_neg (by decide)] at hct
        obtain ⟨z, hz⟩ := ih (j + 1) (by omega) g (fun i hi => hg i (by omega))
        refine ⟨z + 1, ?_⟩
        unfold wp_X8_listStruck_h7
        refine br_f (nI_ge (by omega) (by omega)) (br_f (nI_ge (a := j) (b := 24) (by omega) (by omega)) ?_)
        refine sp_bit (by omega) (by omega) ?_
        rw [hb]
        refine ⟨fun _ => ?_, fun q => absurd q (by decide)⟩
        unfold wp_X8_listStruck_j56
        intro x e
        rw [nI_1] at e
        rw [hct, Nat.add_zero] at hz
        rw [e]
        exact hz
      | true =>
        rw [hb, if_pos rfl] at hct
        have hk : kth r (fb_ct (fun i => r.testBit i) j) = j := by
          have hlt : fb_ct (fun i => r.testBit i) j < bc r := by rw [hbn]; omega
          obtain ⟨k1, k2, k3⟩ := kth_ok hr (by omega : n ≤ 32) hlt
          exact fb_ct_kth_one (p := fun i => r.testBit i) k2 hb k3
        have hg2 : ∀ i, i < fb_ct (fun i => r.testBit i) (j + 1) → upd g (fb_ct (fun i => r.testBit i) j) (nI j) i = nI (kth r i) := by
          intro i hi
          unfold upd
          by_cases he : i = fb_ct (fun i => r.testBit i) j
          · rw [if_pos he, he, hk]
          · rw [if_neg he]
            exact hg i (by omega)
        obtain ⟨z, hz⟩ := ih (j + 1) (by omega) _ hg2
        refine ⟨z + 1, ?_⟩
        unfold wp_X8_listStruck_h7
        refine br_f (nI_ge (by omega) (by omega)) (br_f (nI_ge (a := j) (b := 24) (by omega) (by omega)) ?_)
        refine sp_bit (by omega) (by omega) ?_
        rw [hb]
        refine ⟨fun q => absurd rfl q, fun _ => ⟨vp_in_nI (by omega) (by omega), ?_⟩⟩
        intro g6 e6 x7 e7
        unfold wp_X8_listStruck_j56
        intro x e
        rw [nI_1] at e e7
        rw [J_cl (by omega)] at e6
        rw [hct] at hz
        rw [e, e7, e6]
        exact hz
  unfold wp_X8_listStruck
  exact key n 0 (by omega) f (fun i hi => absurd hi (Nat.not_lt_zero i))
/-! ===== the class's search ===== -/
theorem sp_cover {n r cap : Nat} {gs : Nat → Int32} (h0 : 0 < n) (hn : n ≤ 24) (hr : r < 2 ^ n) (hcap : cap ≤ 8192) (hgs : ∀ i, i < bc r → gs i = nI (kth r i)) (hk : 0 < bc r) :
    ∀ (D d : Nat), D ≤ d → ∀ (c sh dep cnt : Nat) (f : Nat → Int32) (Q : Int32 → (Nat → Int32) → Prop), c < 2 ^ n → sh < 2 ^ n → n - bc c < D → dep + D ≤ 25 → cnt ≤ cap →
      Q (nI (app cap (tcov n r D c sh) cnt f).1) (app cap (tcov n r D c sh) cnt f).2 → wp_X8_cover d cap (nI (bc r)) (nI cnt) (nI n) (nI r) f gs (nI c) (nI sh) (nI dep) Q
  | 0, _, _, _, _, _, _, _, _, _, _, hz, _, _, _ => absurd hz (Nat.not_lt_zero _)
  | D + 1, d, hd, c, sh, dep, cnt, f, Q, hc, hsh, hz, hdep, hcnt, hQ => by
    have hp : 2 ^ n ≤ 2 ^ 24 := Nat.pow_le_pow_right (by omega) hn
    have hbr := bc_le hr (by omega : n ≤ 32)
    obtain ⟨d, rfl⟩ : ∃ e, d = e + 1 := ⟨d - 1, by omega⟩
    unfold wp_X8_cover wb_X8_cover wp_X8_cover_j25
    refine br_f (nI_pos (by omega)) ?_
    refine b_le (a := cap) (b := cnt) (by omega) (by omega) (fun q => ?_) (fun q => ?_)
    · rw [app_full q] at hQ
      exact hQ
    refine br_t (nI_le (b := 24) (by omega) (by omega)) ?_
    refine sp_inverted hn hc ?_
    have hx : (2 ^ n - 1) ^^^ c < 2 ^ n := Nat.xor_lt_two_pow (by omega) hc
    have hfull : (2 ^ n - 1) ^^^ c = 0 ↔ c = 2 ^ n - 1 := by
      constructor
      · intro h
        have h2 : c = (2 ^ n - 1) ^^^ ((2 ^ n - 1) ^^^ c) := by rw [← Nat.xor_assoc, Nat.xor_self, Nat.zero_xor]
        rw [h, Nat.xor_zero] at h2
        exact h2
      · intro h; rw [h, Nat.xor_self]
    unfold tcov at hQ
    refine b_ne (b := 0) (by omega) (by omega) (fun hne => ?_) (fun he => ?_)
    · have hcf : c ≠ 2 ^ n - 1 := fun q => hne (hfull.mpr q)
      rw [if_neg hcf] at hQ
      obtain ⟨l1, l2, l3⟩ := lz_ok hc hcf
      have hcn : bc c < n := by
        have h1 := bc_le hc (by omega : n ≤ 32)
        have h2 := bc_full (by omega : n ≤ 32) hc
        rcases Nat.lt_or_ge (bc c) n with q | q
        · exact q
        · exact absurd (h2.mp (by omega)) hcf
      have ebit : ∀ i, i < n → ((2 ^ n - 1) ^^^ c).testBit i = !c.testBit i := by
        intro i hi
        rw [Nat.testBit_xor, Nat.testBit_two_pow_sub_one]
        simp [hi]
      refine sp_ntz (t := lz n c) (by omega) (by rw [ebit _ l1, l2]; rfl) (fun i hi => by rw [ebit _ (by omega), l3 i hi]; rfl) ?_
      -- the places from which on the rest is looked at
      obtain ⟨bb, hbb⟩ : ∃ bb : Nat → Nat, bb = fun i => if i < bc r then kth r i else n := ⟨_, rfl⟩
      have bbn : ∀ i, bb i ≤ n := fun i => by
        rw [hbb]
        show (if i < bc r then kth r i else n) ≤ n
        by_cases hi : i < bc r
        · rw [if_pos hi]; exact Nat.le_of_lt (kth_ok hr (by omega : n ≤ 32) hi).1
        · rw [if_neg hi]; exact Nat.le_refl n
      generalize hF : tkid n r (tcov n r D) c sh = F at hQ
      have Fno : ∀ b, r.testBit b = false → F b = [] := fun b hb => by
        rw [← hF]
        unfold tkid
        rw [hb, if_neg (by decide)]
      have nextb : ∀ i, i < bc r → tk F (n - (kth r i + 1)) (kth r i + 1) = tk F (n - bb (i + 1)) (bb (i + 1)) := by
        intro i hi
        obtain ⟨a1, a2, a3⟩ := kth_ok hr (by omega : n ≤ 32) hi
        by_cases hi2 : i + 1 < bc r
        · have e : bb (i + 1) = kth r (i + 1) := by rw [hbb]; exact if_pos hi2
          have hlt := kth_mono hr (by omega : n ≤ 32) (Nat.lt_add_one i) hi2
          obtain ⟨b1, b2, b3⟩ := kth_ok hr (by omega : n ≤ 32) hi2
          have h := tk_skip (f := F) (n := n) (b := kth r i + 1) (kth r (i + 1) - (kth r i + 1)) (by omega) (fun j h1 h2 => Fno j (kth_between hr (by omega : n ≤ 32) hi2 (by omega) (by omega)))
          rw [h, e, show kth r i + 1 + (kth r (i + 1) - (kth r i + 1)) = kth r (i + 1) by omega]
        · have e : bb (i + 1) = n := by rw [hbb]; exact if_neg hi2
          have h := tk_skip (f := F) (n := n) (b := kth r i + 1) (n - (kth r i + 1)) (by omega) (fun j h1 h2 => Fno j (kth_last hr (by omega : n ≤ 32) hk (by rw [show bc r - 1 = i by omega]; omega) (by omega)))
          rw [h, e, show kth r i + 1 + (n - (kth r i + 1)) = n by omega]
      have loop : ∀ m i, i + m = bc r → ∀ (cnt : Nat) (f : Nat → Int32), cnt ≤ cap → Q (nI (app cap (tk F (n - bb i) (bb i)) cnt f).1) (app cap (tk F (n - bb i) (bb i)) cnt f).2 → ∃ z, wp_X8_cover_h72 cap (nI (bc r)) (nI n) (nI r) gs (wp_X8_cover d) Q z (nI c) (nI sh) (nI dep) (nI (lz n c)) (nI i) (nI cnt) f := by
        intro m
        induction m with
        | zero =>
          intro i hi cnt f hcnt hQ
          have e : bb i = n := by rw [hbb]; exact if_neg (by omega)
          rw [e, Nat.sub_self] at hQ
          refine ⟨1, ?_⟩
          unfold wp_X8_cover_h72 wp_X8_cover_j155
          exact br_t (nI_le (by omega) (by omega)) hQ
        | succ m ih =>
          intro i hi cnt f hcnt hQ
          have hik : i < bc r := by omega
          have e : bb i = kth r i := by rw [hbb]; exact if_pos hik
          obtain ⟨a1, a2, a3⟩ := kth_ok hr (by omega : n ≤ 32) hik
          rw [e, show n - kth r i = (n - (kth r i + 1)) + 1 by omega] at hQ
          rw [show tk F (n - (kth r i + 1) + 1) (kth r i) = F (kth r i) ++ tk F (n - (kth r i + 1)) (kth r i + 1) from rfl, app_append, nextb i hik] at hQ
          have hgo : ∃ z, ∀ (x1 : Int32), x1 = nI i + 1 → wp_X8_cover_h72 cap (nI (bc r)) (nI n) (nI r) gs (wp_X8_cover d) Q z (nI c) (nI sh) (nI dep) (nI (lz n c)) x1 (nI (app cap (F (kth r i)) cnt f).1) (app cap (F (kth r i)) cnt f).2 := by
            obtain ⟨z, hz⟩ := ih (i + 1) (by omega) (app cap (F (kth r i)) cnt f).1 (app cap (F (kth r i)) cnt f).2 (app_le _ _ _ hcnt) hQ
            refine ⟨z, fun x1 e1 => ?_⟩
            rw [nI_1] at e1
            rw [e1]
            exact hz
          obtain ⟨z, hz⟩ := hgo
          refine ⟨z + 1, ?_⟩
          unfold wp_X8_cover_h72
          refine br_f (nI_ge (by omega) (by omega)) (br_f (nI_ge (a := i) (b := 24) (by omega) (by omega)) ⟨vp_in_nI (by omega) (by omega), ?_⟩)
          rw [J_cl (by omega), hgs i hik]
          refine sp_leftOverS (by omega) h0 (by omega) (by omega) ?_
          have htm := Nat.mod_lt (lz n c + n - kth r i) h0
          have eF : F (kth r i) = if mv n r ((lz n c + n - kth r i) % n) &&& c = 0 then tcov n r D (c ||| mv n r ((lz n c + n - kth r i) % n)) (sh ||| 2 ^ ((lz n c + n - kth r i) % n)) else [] := by
            rw [← hF]
            unfold tkid
            rw [if_pos a2]
          generalize (lz n c + n - kth r i) % n = t at htm eF ⊢
          refine sp_moved h0 hn hr (by omega) ?_
          rw [Nat.mod_eq_of_lt htm, fa_and]
          have hm := mv_lt n r t
          have hand : mv n r t &&& c < 2 ^ n := Nat.and_lt_two_pow _ hc
          unfold wp_X8_cover_j149
          refine b_ne (b := 0) (by omega) (by omega) (fun q2 => ?_) (fun q2 => ?_)
          · rw [eF, if_neg q2] at hz
            exact hz
          · rw [if_pos q2] at eF
            rw [fa_or, J_shl1 (by omega), fa_or, nI_1]
            have hbc2 : bc (c ||| mv n r t) = bc c + bc r := by
              rw [bc_or (by omega : n ≤ 32) hc hm (by rw [Nat.and_comm]; exact q2), bc_mv hr (by omega) htm]
            refine sp_cover h0 hn hr hcap hgs hk D d (by omega) (c ||| mv n r t) (sh ||| 2 ^ t) (dep + 1) cnt f _ (Nat.or_lt_two_pow hc hm) (Nat.or_lt_two_pow hsh (Nat.pow_lt_pow_right (by omega) htm)) (by omega) (by omega) hcnt ?_
            rw [← eF]
            exact hz
      have e0 : bb 0 = kth r 0 := by rw [hbb]; exact if_pos hk
      obtain ⟨a1, a2, a3⟩ := kth_ok hr (by omega : n ≤ 32) hk
      have hsk := tk_skip (f := F) (n := n) (b := 0) (kth r 0) (by omega) (fun j _ h2 => Fno j (kth_first hr (by omega : n ≤ 32) hk (by omega)))
      rw [Nat.sub_zero, Nat.zero_add] at hsk
      rw [hsk] at hQ
      exact loop (bc r) 0 (by omega) cnt f hcnt (by rw [e0]; exact hQ)
    · rw [if_pos (hfull.mp he)] at hQ
      unfold app at hQ
      rw [if_pos q] at hQ
      refine ⟨vp_in_nI q (by omega), ?_⟩
      intro g14 e14 x15 e15
      rw [J_cl (by omega)] at e14
      rw [nI_1] at e15
      rw [e14, e15]
      exact hQ
