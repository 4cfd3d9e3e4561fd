/-! ===== the calls: what is common ===== -/
theorem eqk {r s : Int32} {K : Prop} (e : r = s) (h : K) : (r = s → K) ∧ (¬ r = s → False) := ⟨fun _ => h, fun q => q e⟩
theorem rg (x : Int32) (a b : Nat) : (∃ j : Nat, x = nI j ∧ a ≤ j ∧ j ≤ b ∧ j < 2 ^ 31) ∨ (x.toInt < (a : Int) ∨ (b : Int) < x.toInt) := by
  by_cases h : (a : Int) ≤ x.toInt ∧ x.toInt ≤ b
  · left
    have h1 := Int32.toInt_lt x
    have hj : x.toInt.toNat < 2 ^ 31 := by omega
    refine ⟨x.toInt.toNat, ?_, by omega, by omega, hj⟩
    rw [fa_eq, nI_toInt hj]
    omega
  · right; omega
theorem rg_bad {x lo hi : Int32} {a b : Int} {J A : Prop} (h1 : lo.toInt = a) (h2 : hi.toInt = b) (h : x.toInt < a ∨ b < x.toInt) (hJ : J) : (x < lo → J) ∧ (¬ x < lo → ((x ≤ hi → A) ∧ (¬ x ≤ hi → J))) := by
  refine ⟨fun _ => hJ, fun q => ⟨fun q2 => ?_, fun _ => hJ⟩⟩
  rw [fa_lt] at q
  rw [fa_le] at q2
  omega
theorem rg_good {x lo hi : Int32} {a b : Int} {J A : Prop} (h1 : lo.toInt = a) (h2 : hi.toInt = b) (h3 : a ≤ x.toInt) (h4 : x.toInt ≤ b) (hA : A) : (x < lo → J) ∧ (¬ x < lo → ((x ≤ hi → A) ∧ (¬ x ≤ hi → J))) := by
  refine ⟨fun q => ?_, fun q => ⟨fun _ => hA, fun q2 => ?_⟩⟩
  · rw [fa_lt] at q; omega
  · rw [fa_le] at q2; omega
theorem in_bad {x : Int32} {lo hi : Int64} {a b : Int} {Q : Int32 → Prop} (h1 : lo.toInt = a) (h2 : hi.toInt = b) (h : x.toInt < a ∨ b < x.toInt) (hF : Q 0) : wp_X10_in x.toInt64 lo hi Q :=
  sp_in h1 h2 (fun _ _ => by omega) (fun _ => hF)
theorem in_good {x : Int32} {lo hi : Int64} {a b : Int} {Q : Int32 → Prop} (h1 : lo.toInt = a) (h2 : hi.toInt = b) (h3 : a ≤ x.toInt) (h4 : x.toInt ≤ b) (hT : Q 1) : wp_X10_in x.toInt64 lo hi Q :=
  sp_in h1 h2 (fun _ _ => hT) (fun _ => by omega)
/-- a cycle and a rhythm in it -/
def Ok (b r : Int32) : Prop := ∃ n s : Nat, 0 < n ∧ n ≤ 24 ∧ s < 2 ^ n ∧ b = nI n ∧ r = nI s
def Rh (xb xr mb mr : Int32) : Prop := ∃ n s : Nat, 0 < n ∧ n ≤ 24 ∧ s < 2 ^ n ∧ xb = nI n ∧ xr = nI s ∧ mb = nI n ∧ mr = nI s
theorem Rh.mk' {n s : Nat} (h0 : 0 < n) (hn : n ≤ 24) (hs : s < 2 ^ n) : Rh (nI n) (nI s) (nI n) (nI s) := ⟨n, s, h0, hn, hs, rfl, rfl, rfl, rfl⟩
/-- what was so: a ring against a row; B more deeds may come -/
def Ps (B : Nat) (pn pc : Int32) (fb fr : Nat → Int32) (mu : Int32) (gb gr : Nat → Int32) : Prop := ∃ x c : Nat, c ≤ x ∧ x + B ≤ 2 ^ 20 ∧ c ≤ 30 ∧ pn = nI x ∧ pc = nI c ∧ mu = nI c ∧ ∀ i, i < c → fb ((x - c + i) % 30) = gb i ∧ fr ((x - c + i) % 30) = gr i ∧ Ok (gb i) (gr i)
def An (pn : Int32) : Int32 := nI (pn.toNatClampNeg + 1)
def Ap (pn : Int32) : Nat := pn.toNatClampNeg % 30
def Ac (pc : Int32) : Int32 := nI (min (pc.toNatClampNeg + 1) 30)
theorem ps_0 {B : Nat} (hB : B ≤ 2 ^ 20) (fb fr gb gr : Nat → Int32) : Ps B 0 0 fb fr 0 gb gr := ⟨0, 0, by omega, by omega, by omega, rfl, rfl, rfl, fun i hi => by omega⟩
theorem Ps.mn {B C : Nat} {pn pc mu : Int32} {fb fr gb gr : Nat → Int32} (h : Ps C pn pc fb fr mu gb gr) (hB : B ≤ C) : Ps B pn pc fb fr mu gb gr := by
  obtain ⟨x, c, h1, h2, h3, h4⟩ := h
  exact ⟨x, c, h1, by omega, h3, h4⟩
theorem Ps.dn {B : Nat} {pn pc mu : Int32} {fb fr gb gr : Nat → Int32} (h : Ps (B + 1) pn pc fb fr mu gb gr) : Ps B pn pc fb fr mu gb gr := h.mn (Nat.le_succ B)
theorem Ps.bd {B : Nat} {pn pc mu : Int32} {fb fr gb gr : Nat → Int32} (h : Ps B pn pc fb fr mu gb gr) : B ≤ 2 ^ 20 := by
  obtain ⟨x, c, h1, h2, h3, h4⟩ := h
  omega
theorem sp_place {x : Nat} {Q : Int32 → Prop} (hx : x < 2 ^ 31) (h : Q (nI (x % 30))) : wp_X5_place (nI x) Q := by
  unfold wp_X5_place
  exact sp_leftOver (n := 30) hx (by omega) (by omega) h
theorem sp_addN {x c : Nat} {b r : Int32} {fb fr : Nat → Int32} {Q : Int32 → Int32 → (Nat → Int32) → (Nat → Int32) → Prop} (hx : x ≤ 2 ^ 21) (hc : c ≤ 30) (hQ : Q (An (nI x)) (Ac (nI c)) (upd fb (Ap (nI x)) b) (upd fr (Ap (nI x)) r)) : wp_X5_add (nI x) (nI c) fb fr b r Q := by
  have hm := Nat.mod_lt x (show 30 > 0 by omega)
  have e0 : (nI (x % 30)).toNatClampNeg = Ap (nI x) := by unfold Ap; rw [J_cl (by omega), J_cl (by omega)]
  have e1 : nI x + 1 = An (nI x) := by unfold An; rw [J_cl (by omega), nI_1]
  have e2 : (if (30 : Int32) < nI c + 1 then (30 : Int32) else nI c + 1) = Ac (nI c) := by
    unfold Ac
    rw [J_cl (by omega), nI_1]
    by_cases q : 30 < c + 1
    · have q2 : (30 : Int32) < nI (c + 1) := nI_lt (a := 30) q (by omega)
      rw [if_pos q2, Nat.min_eq_right (by omega)]; rfl
    · have q2 : ¬ (30 : Int32) < nI (c + 1) := nI_nlt (a := 30) (b := c + 1) (by omega) (by omega)
      rw [if_neg q2, Nat.min_eq_left (by omega)]
  unfold wp_X5_add
  refine sp_place (by omega) ⟨vp_in_nI hm (by omega), ?_⟩
  intro g1 h1
  refine sp_place (by omega) ⟨vp_in_nI hm (by omega), ?_⟩
  intro g2 h2
  intro x5 h5
  intro x6 h6
  rw [e0] at h1 h2
  rw [e1] at h5
  rw [e2] at h6
  rw [h1, h2, h5, h6]
  exact hQ
theorem sp_add {B : Nat} {pn pc mu b r : Int32} {fb fr gb gr : Nat → Int32} {Q : Int32 → Int32 → (Nat → Int32) → (Nat → Int32) → Prop} (h : Ps B pn pc fb fr mu gb gr) (hQ : Q (An pn) (Ac pc) (upd fb (Ap pn) b) (upd fr (Ap pn) r)) : wp_X5_add pn pc fb fr b r Q := by
  obtain ⟨x, c, hcx, hx, hc, rfl, rfl, rfl, hi⟩ := h
  exact sp_addN (by omega) hc hQ
def sh1 (g : Nat → Int32) (j : Nat) : Nat → Int32 := fun i => if i + 1 < j then g (i + 1) else g i
theorem sh1_step (g : Nat → Int32) {j : Nat} (h : 1 ≤ j) : upd (sh1 g j) (j - 1) (sh1 g j j) = sh1 g (j + 1) := by
  funext i
  unfold upd sh1
  by_cases e : i = j - 1
  · subst e
    rw [if_pos rfl, if_neg (by omega), if_pos (by omega), show j - 1 + 1 = j by omega]
  · rw [if_neg e]
    by_cases q : i + 1 < j
    · rw [if_pos q, if_pos (by omega)]
    · rw [if_neg q, if_neg (by omega)]
theorem sh1_1 (g : Nat → Int32) : sh1 g 1 = g := by
  funext i
  unfold sh1
  rw [if_neg (by omega)]
theorem sp_save {B n s : Nat} {pn pc mu : Int32} {fb fr gb gr : Nat → Int32} {Q : Int32 → (Nat → Int32) → (Nat → Int32) → Prop} (h0 : 0 < n) (hn : n ≤ 24) (hs : s < 2 ^ n) (h : Ps (B + 1) pn pc fb fr mu gb gr) (hQ : ∀ v1 v2 v3, Ps B (An pn) (Ac pc) (upd fb (Ap pn) (nI n)) (upd fr (Ap pn) (nI s)) v1 v2 v3 → Q v1 v2 v3) : wp_X10_save (nI n) (nI s) mu gb gr Q := by
  obtain ⟨x, c, hcx, hx, hc, rfl, rfl, rfl, hi⟩ := h
  have hOk : Ok (nI n) (nI s) := ⟨n, s, h0, hn, hs, rfl, rfl⟩
  unfold An Ac Ap at hQ
  rw [J_cl (by omega), J_cl (by omega)] at hQ
  unfold wp_X10_save
  refine b_ne (b := 30) (by omega) (by omega) (fun q => ?_) (fun q => ?_)
  · unfold wp_X10_save_j61
    refine ⟨vp_in_nI (by omega) (by omega), ?_⟩
    rintro g1 rfl
    refine ⟨vp_in_nI (by omega) (by omega), ?_⟩
    rintro g2 rfl
    intro x3 e3
    rw [nI_1] at e3
    subst e3
    rw [J_cl (by omega)]
    refine hQ _ _ _ ⟨x + 1, c + 1, by omega, by omega, by omega, rfl, by rw [Nat.min_eq_left (by omega)], rfl, fun i hi2 => ?_⟩
    unfold upd
    by_cases e : i = c
    · subst e
      rw [show (x + 1 - (i + 1) + i) % 30 = x % 30 by omega, if_pos rfl, if_pos rfl, if_pos rfl, if_pos rfl]
      exact ⟨rfl, rfl, hOk⟩
    · have := hi i (by omega)
      have hne : ¬ (x - c + i) % 30 = x % 30 := by omega
      rw [show (x + 1 - (c + 1) + i) % 30 = (x - c + i) % 30 by omega]
      simp only [if_neg hne, if_neg e]
      exact this
  · subst q
    have key : ∃ k, wp_X10_save_h11 (nI n) (nI s) Q k (nI 1) (nI 30) (sh1 gb 1) (sh1 gr 1) := by
      refine lp_up (P := fun k j => wp_X10_save_h11 (nI n) (nI s) Q k (nI j) (nI 30) (sh1 gb j) (sh1 gr j)) (a := 1) (n := 30) (by omega) ⟨1, ?_⟩ (fun j hj1 hj ⟨k, hk⟩ => ⟨k + 1, ?_⟩)
      · unfold wp_X10_save_h11
        refine br_t (nI_le (Nat.le_refl 30) (by omega)) ?_
        intro x5 e5
        rw [show (nI 30 - 1 : Int32) = nI 29 from rfl] at e5
        subst e5
        unfold wp_X10_save_j61
        refine ⟨vp_in_nI (by omega) (by omega), ?_⟩
        rintro g1 rfl
        refine ⟨vp_in_nI (by omega) (by omega), ?_⟩
        rintro g2 rfl
        intro x3 e3
        rw [nI_1] at e3
        subst e3
        rw [J_cl (by omega)]
        refine hQ _ _ _ ⟨x + 1, 30, by omega, by omega, by omega, rfl, rfl, rfl, fun i hi2 => ?_⟩
        unfold upd sh1
        by_cases e : i = 29
        · subst e
          rw [show (x + 1 - 30 + 29) % 30 = x % 30 by omega, if_pos rfl, if_pos rfl, if_pos rfl, if_pos rfl]
          exact ⟨rfl, rfl, hOk⟩
        · have := hi (i + 1) (by omega)
          have hne : ¬ (x - 30 + (i + 1)) % 30 = x % 30 := by omega
          have hl : i + 1 < 30 := by omega
          rw [show (x + 1 - 30 + i) % 30 = (x - 30 + (i + 1)) % 30 by omega]
          simp only [if_neg hne, if_neg e, if_pos hl]
          exact this
      · unfold wp_X10_save_h11
        refine br_f (nI_ge (b := 30) hj (by omega)) ⟨vp_in_nI hj (by omega), ?_⟩
        rintro x6 rfl
        rw [show (1 : Int32) = nI 1 from rfl, pk_sub hj1, J_cl (by omega), J_cl (by omega)]
        refine ⟨vp_in_nI (by omega) (by omega), ?_⟩
        rintro g7 rfl
        refine ⟨vp_in_nI hj (by omega), ?_⟩
        rintro x8 rfl
        refine ⟨vp_in_nI (by omega) (by omega), ?_⟩
        rintro g9 rfl
        rintro x10 rfl
        rw [sh1_step gb hj1, sh1_step gr hj1, nI_add]
        exact hk
    rw [sh1_1, sh1_1] at key
    exact key
theorem sp_change {B : Nat} {pn pc mu b r p1 p2 : Int32} {fb fr gb gr : Nat → Int32} {Q : Int32 → Int32 → Int32 → Int32 → Int32 → (Nat → Int32) → (Nat → Int32) → Prop} (h : Ps B pn pc fb fr mu gb gr) (hQ : Q p2 p1 p2 (An pn) (Ac pc) (upd fb (Ap pn) b) (upd fr (Ap pn) r)) : wp_X9_change b r pn pc fb fr p1 p2 Q := by
  unfold wp_X9_change
  exact sp_add h hQ
theorem sp_becomes {B n s : Nat} {pn pc mu p : Int32} {fb fr gb gr : Nat → Int32} {Q : Int32 → Int32 → Int32 → (Nat → Int32) → (Nat → Int32) → Prop} (h0 : 0 < n) (hn : n ≤ 24) (hs : s < 2 ^ n) (h : Ps (B + 1) pn pc fb fr mu gb gr) (hQ : ∀ v1 v2 v3, Ps B (An pn) (Ac pc) (upd fb (Ap pn) (nI n)) (upd fr (Ap pn) (nI s)) v1 v2 v3 → Q p p v1 v2 v3) : wp_X10_becomes (nI n) (nI s) mu gb gr p Q := by
  unfold wp_X10_becomes
  exact sp_save h0 hn hs h hQ
