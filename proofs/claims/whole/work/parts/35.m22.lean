/-! ===== images, text, ear: what holds, and the small calls ===== -/
theorem nar1 : vp_nar .boolean 1 = 1 := by decide
theorem nar0 : vp_nar .boolean 0 = 0 := by decide
def Im (xb xr xd mb mr md mk : Nat → Int32) : Prop := ∀ i, i < 2 → (xb i = 0 ∧ mk i = 0) ∨ ∃ n s d : Nat, 0 < n ∧ n ≤ 24 ∧ s < 2 ^ n ∧ d < 2 ^ 31 ∧ xb i = nI n ∧ mb i = nI n ∧ xr i = nI s ∧ mr i = nI s ∧ xd i = nI d ∧ md i = nI d ∧ mk i = 1
def Tx (xc : Int32) (xl : Nat → Int32) (mc : Int32) (mt : Nat → Int32) : Prop := ∃ c : Nat, c ≤ 60 ∧ xc = nI c ∧ mc = nI c ∧ ∀ i, i < c → ∃ v : Nat, v ≤ 255 ∧ xl i = nI v ∧ mt i = nI v
def Er (xc : Int32) (xh xs : Nat → Int32) (mc : Int32) (mh ms : Nat → Int32) : Prop := ∃ c : Nat, c ≤ 8 ∧ xc = nI c ∧ mc = nI c ∧ ∀ i, i < c → ∃ (b : Nat) (w : Bool), b < 24 ∧ xh i = nI b ∧ mh i = nI b ∧ xs i = nI w.toNat ∧ ms i = nI w.toNat
theorem sp_isImageT {j : Nat} {Q : Int32 → Prop} (hj : j < 2) (h : Q 1) : wp_X9_isImage (nI j) Q := by
  unfold wp_X9_isImage wp_X9_isImage_j13 wp_X9_isImage_j14
  exact br_f (nI_pos (by omega)) (br_f (nI_ge (b := 2) hj (by omega)) ⟨isB1, h⟩)
theorem sp_isImageF {x : Int32} {Q : Int32 → Prop} (hx : x.toInt < 0 ∨ 1 < x.toInt) (h : Q 0) : wp_X9_isImage x Q := by
  unfold wp_X9_isImage wp_X9_isImage_j13 wp_X9_isImage_j14
  refine ⟨fun _ => ⟨isB0, h⟩, fun q => ⟨fun _ => ⟨isB0, h⟩, fun q2 => ?_⟩⟩
  rw [fa_lt] at q
  rw [fa_le] at q2
  have e0 : (0 : Int32).toInt = 0 := rfl
  have e2 : (2 : Int32).toInt = 2 := rfl
  omega
theorem cs_keep {B : Nat} {xb xr mb mr pn pc mu x xd md : Int32} {fb fr gb gr ib ir id jb jr jd jk : Nat → Int32} {V : Prop} {K : Int32 → Int32 → (Nat → Int32) → (Nat → Int32) → (Nat → Int32) → Int32 → (Nat → Int32) → (Nat → Int32) → (Nat → Int32) → (Nat → Int32) → Prop} (hR : Rh xb xr mb mr) (hS : Sd xd md) (hP : Ps B pn pc fb fr mu gb gr) (hI : Im ib ir id jb jr jd jk) (hV : V) (hK : ∀ a b c d e f g h i j, Ps B a b fb fr f gb gr → Im c d e g h i j → K a b c d e f g h i j) : wp_X9_keep xb xr xd pn pc ib ir id x fun r a b c d e => V ∧ wp_X10_keep mb mr md mu jb jr jd jk x fun r2 f g h i j => (r = r2 → K a b c d e f g h i j) ∧ (¬ r = r2 → False) := by
  unfold wp_X9_keep wp_X10_keep wp_X5_clear
  rcases rg x 0 1 with ⟨m, rfl, h1, h2, h3⟩ | hx
  · have ht := tI h3
    obtain ⟨n, s, h0, hn, hs, rfl, rfl, rfl, rfl⟩ := hR
    obtain ⟨d, hd, rfl, rfl⟩ := hS
    refine sp_isImageT (by omega) ⟨fun _ => ?_, fun q => absurd q (by decide)⟩
    have hv : vp_in (nI m) 2 := vp_in_nI (by omega) (by omega)
    refine ⟨hv, ?_⟩
    rintro g3 rfl
    refine ⟨hv, ?_⟩
    rintro g4 rfl
    refine ⟨hv, ?_⟩
    rintro g5 rfl
    refine ⟨hV, ?_⟩
    refine in_good (a := 0) (b := 1) rfl rfl (by omega) (by omega) ⟨fun _ => ?_, fun q => absurd q (by decide)⟩
    refine ⟨hv, ?_⟩
    rintro g3 rfl
    refine ⟨hv, ?_⟩
    rintro g4 rfl
    refine ⟨hv, ?_⟩
    rintro g5 rfl
    refine ⟨hv, ?_⟩
    rintro g6 rfl
    rw [nar1, J_cl h3]
    refine eqk rfl (hK _ _ _ _ _ _ _ _ _ _ (ps_0 hP.bd _ _ _ _) (fun i hi => ?_))
    unfold upd
    by_cases e : i = m
    · right
      subst e
      simp only [if_true]
      exact ⟨n, s, d, h0, hn, hs, hd, rfl, rfl, rfl, rfl, rfl, rfl, trivial⟩
    · simp only [if_neg e]
      exact hI i hi
  · refine sp_isImageF hx ⟨fun q => absurd rfl q, fun _ => ⟨hV, ?_⟩⟩
    refine in_bad (a := 0) (b := 1) rfl rfl hx ⟨fun q => absurd rfl q, fun _ => ?_⟩
    exact eqk rfl (hK _ _ _ _ _ _ _ _ _ _ hP hI)
theorem cs_goBack {B : Nat} {xb xr mb mr pn pc mu x xd md : Int32} {fb fr gb gr ib ir id jb jr jd jk : Nat → Int32} {V : Prop} {K : Int32 → Int32 → Int32 → Int32 → Int32 → Int32 → Int32 → Int32 → Int32 → Prop} (hR : Rh xb xr mb mr) (hS : Sd xd md) (hP : Ps B pn pc fb fr mu gb gr) (hI : Im ib ir id jb jr jd jk) (hV : V) (hK : ∀ a b c d e f g h i, Rh a b f g → Sd c h → Ps B d e fb fr i gb gr → K a b c d e f g h i) : wp_X9_goBack xb xr xd pn pc ib ir id x fun r a b c d e => V ∧ wp_X10_goBack mb mr md mu jb jr jd jk x fun r2 f g h i => (r = r2 → K a b c d e f g h i) ∧ (¬ r = r2 → False) := by
  unfold wp_X9_goBack wp_X10_goBack wp_X5_clear
  rcases rg x 0 1 with ⟨m, rfl, h1, h2, h3⟩ | hx
  · have ht := tI h3
    refine sp_isImageT (by omega) ⟨fun _ => ?_, fun q => absurd q (by decide)⟩
    have hv : vp_in (nI m) 2 := vp_in_nI (by omega) (by omega)
    rw [J_cl h3]
    refine ⟨hv, ?_⟩
    rcases hI m (by omega) with ⟨e1, e2⟩ | ⟨n, s, d, h0, hn, hs, hd, e1, e2, e3, e4, e5, e6, e7⟩
    · refine ⟨fun q => absurd e1 q, fun _ => ⟨hV, ?_⟩⟩
      refine in_good (a := 0) (b := 1) rfl rfl (by omega) (by omega) ⟨fun _ => ⟨hv, fun q => absurd e2 q, fun _ => ?_⟩, fun q => absurd q (by decide)⟩
      exact eqk rfl (hK _ _ _ _ _ _ _ _ _ hR hS hP)
    · refine ⟨fun _ => ⟨hv, ?_⟩, fun q => absurd (e1 ▸ q) (nI_ne0 h0 (by omega))⟩
      rintro x4 rfl
      refine ⟨hv, ?_⟩
      rintro x5 rfl
      refine ⟨hv, ?_⟩
      rintro x6 rfl
      refine ⟨hV, ?_⟩
      refine in_good (a := 0) (b := 1) rfl rfl (by omega) (by omega) ⟨fun _ => ⟨hv, fun _ => ⟨hv, ?_⟩, fun q => absurd (e7 ▸ q) (by decide)⟩, fun q => absurd q (by decide)⟩
      rintro x4 rfl
      refine ⟨hv, ?_⟩
      rintro x5 rfl
      refine ⟨hv, ?_⟩
      rintro x6 rfl
      exact eqk rfl (hK _ _ _ _ _ _ _ _ _ ⟨n, s, h0, hn, hs, e1, e3, e2, e4⟩ ⟨d, hd, e5, e6⟩ (ps_0 hP.bd _ _ _ _))
  · refine sp_isImageF hx ⟨fun q => absurd rfl q, fun _ => ⟨hV, ?_⟩⟩
    refine in_bad (a := 0) (b := 1) rfl rfl hx ⟨fun q => absurd rfl q, fun _ => ?_⟩
    exact eqk rfl (hK _ _ _ _ _ _ _ _ _ hR hS hP)
theorem cs_seed {xd md x : Int32} {V : Prop} {K : Int32 → Int32 → Prop} (hS : Sd xd md) (hV : V) (hK : ∀ a b, Sd a b → K a b) : wp_X9_seed xd x fun r a => V ∧ wp_X10_seed md x fun r2 b => (r = r2 → K a b) ∧ (¬ r = r2 → False) := by
  have hS' := hS
  obtain ⟨d, hd, rfl, rfl⟩ := hS
  unfold wp_X9_seed wp_X10_seed
  refine ⟨fun q => ⟨hV, fun _ => eqk rfl (hK _ _ ?_), fun q2 => absurd q q2⟩, fun q => ⟨hV, fun q2 => absurd q2 q, fun _ => eqk rfl (hK _ _ hS')⟩⟩
  rw [fa_le] at q
  have e0 : (0 : Int32).toInt = 0 := rfl
  rcases rg x 0 (2 ^ 31) with ⟨m, e, h1, h2, h3⟩ | hx
  · exact ⟨m, h3, e, e⟩
  · have := Int32.toInt_lt x
    omega
theorem cs_fault {xf mf : Int32} {K : Prop} (h : xf = mf) (hK : K) : wp_X9_fault xf fun r => wp_X10_fault mf fun r2 => (r = r2 → K) ∧ (¬ r = r2 → False) := by
  unfold wp_X9_fault wp_X10_fault
  exact eqk h hK
theorem cs_forget {xc mc : Int32} {xh xs mh ms : Nat → Int32} {K : Int32 → Int32 → Prop} (hE : Er xc xh xs mc mh ms) (hK : ∀ a b, Er a xh xs b mh ms → K a b) : wp_X9_forget xc fun r a => wp_X10_forget mc fun r2 b => (r = r2 → K a b) ∧ (¬ r = r2 → False) := by
  obtain ⟨c, hc, rfl, rfl, _⟩ := hE
  unfold wp_X9_forget wp_X10_forget wp_X1_clear
  exact eqk rfl (hK _ _ ⟨0, by omega, rfl, rfl, fun i hi => by omega⟩)
theorem cs_feed {xc mc x : Int32} {xl mt : Nat → Int32} {V : Prop} {K : Int32 → (Nat → Int32) → Int32 → (Nat → Int32) → Prop} (hT : Tx xc xl mc mt) (hV : V) (hK : ∀ a b c d, Tx a b c d → K a b c d) : wp_X9_feed xc xl x fun r a b => V ∧ wp_X10_feed mc mt x fun r2 c d => (r = r2 → K a b c d) ∧ (¬ r = r2 → False) := by
  have hT' := hT
  obtain ⟨c, hc, rfl, rfl, hi⟩ := hT
  unfold wp_X9_feed wp_X10_feed wp_X9_feed_j11
  rcases rg x 0 255 with ⟨m, rfl, h1, h2, h3⟩ | hx
  · have ht := tI h3
    refine rg_good (a := 0) (b := 255) rfl rfl (by omega) (by omega) ?_
    unfold wp_X7_append wp_X7_append_j19
    refine br_f (nI_pos (by omega)) ?_
    refine b_lt (b := 60) (by omega) (by omega) (fun q => ?_) (fun q => ?_)
    · refine ⟨vp_in_nI q (by omega), ?_⟩
      rintro g3 rfl
      rintro x4 rfl
      refine ⟨hV, ?_⟩
      refine in_good (a := 0) (b := 255) rfl rfl (by omega) (by omega) ⟨fun _ => ?_, fun q => absurd q (by decide)⟩
      refine b_ne (b := 60) (by omega) (by omega) (fun _ => ?_) (fun q2 => by omega)
      refine ⟨vp_in_nI q (by omega), ?_⟩
      rintro g4 rfl
      rintro x5 rfl
      rw [nI_1, J_cl (by omega)]
      refine eqk rfl (hK _ _ _ _ ⟨c + 1, by omega, rfl, rfl, fun i hi2 => ?_⟩)
      unfold upd
      by_cases e : i = c
      · simp only [if_pos e]
        exact ⟨m, h2, rfl, rfl⟩
      · simp only [if_neg e]
        exact hi i (by omega)
    · refine ⟨hV, ?_⟩
      refine in_good (a := 0) (b := 255) rfl rfl (by omega) (by omega) ⟨fun _ => ?_, fun q => absurd q (by decide)⟩
      refine b_ne (b := 60) (by omega) (by omega) (fun q2 => by omega) (fun _ => ?_)
      exact eqk rfl (hK _ _ _ _ hT')
  · refine rg_bad (a := 0) (b := 255) rfl rfl hx ⟨hV, ?_⟩
    refine in_bad (a := 0) (b := 255) rfl rfl hx ⟨fun q => absurd rfl q, fun _ => ?_⟩
    exact eqk rfl (hK _ _ _ _ hT')
theorem cs_gap {xb xr mb mr x : Int32} {V K : Prop} (hR : Rh xb xr mb mr) (hV : V) (hK : K) : wp_X9_gap xb xr x fun r => V ∧ wp_X10_gap mb mr x fun r2 => (r = r2 → K) ∧ (¬ r = r2 → False) := by
  obtain ⟨n, s, h0, hn, hs, rfl, rfl, rfl, rfl⟩ := hR
  have hb := bc_le hs (by omega : n ≤ 32)
  unfold wp_X9_gap
  by_cases hx : x < 0 ∨ nI (bc s) ≤ x
  · exact sp_gapAtF hn hs hx ⟨hV, sp_gap10F hn hs hx (eqk rfl hK)⟩
  · rcases rg x 0 24 with ⟨m, rfl, h1, h2, h3⟩ | hx2
    · have hm : m < bc s := by
        rcases Nat.lt_or_ge m (bc s) with q | q
        · exact q
        · exact absurd (Or.inr (nI_le q h3)) hx
      exact sp_gapAtT hn hs hm ⟨hV, sp_gap10T h0 hn hs hm (eqk rfl hK)⟩
    · exfalso
      apply hx
      rcases hx2 with q | q
      · left; rw [fa_lt]; exact q
      · right; rw [fa_le, tI (by omega)]; omega
theorem cs_shared {xb xr mb mr x : Int32} {V K : Prop} (hR : Rh xb xr mb mr) (hV : V) (hK : K) : wp_X9_shared xb xr x fun r => V ∧ wp_X10_shared mb mr x fun r2 => (r = r2 → K) ∧ (¬ r = r2 → False) := by
  obtain ⟨n, s, h0, hn, hs, rfl, rfl, rfl, rfl⟩ := hR
  have hp : 2 ^ n ≤ 2 ^ 24 := Nat.pow_le_pow_right (by omega) hn
  unfold wp_X9_shared wp_X10_shared wp_X9_shared_j10 wp_X10_shared_j37
  rcases rg x 0 23 with ⟨m, rfl, h1, h2, h3⟩ | hx
  · have ht := tI h3
    have hl : s &&& mv n s (m % n) < 2 ^ n := Nat.and_lt_two_pow _ (mv_lt _ _ _)
    refine rg_good (a := 0) (b := 23) rfl rfl (by omega) (by omega) ?_
    refine sp_moved h0 hn hs h3 ?_
    rw [fa_and]
    refine sp_bitCount (by omega) ⟨hV, ?_⟩
    refine in_good (a := 0) (b := 23) rfl rfl (by omega) (by omega) ⟨fun q => absurd q (by decide), fun _ => ?_⟩
    refine sp_moved10 h0 hn hs h3 ?_
    rw [fa_and]
    exact sp_bits (by omega) (eqk rfl hK)
  · refine rg_bad (a := 0) (b := 23) rfl rfl hx ⟨hV, ?_⟩
    exact in_bad (a := 0) (b := 23) rfl rfl hx ⟨fun _ => eqk rfl hK, fun q => absurd rfl q⟩
theorem cs_hear {xb xr mb mr xc mc x q : Int32} {xh xs mh ms : Nat → Int32} {G : Int32 → Int32 → (Nat → Int32) → (Nat → Int32) → Prop} {K : Int32 → (Nat → Int32) → (Nat → Int32) → Int32 → (Nat → Int32) → (Nat → Int32) → Prop} (hR : Rh xb xr mb mr) (hE : Er xc xh xs mc mh ms) (w : Bool) (hq : q = nI w.toNat) (hK : ∀ a b c d e f, Er a b c d e f → K a b c d e f) (hG : ∀ r a b c, (wp_X10_hear mb mc mh ms x q fun r2 d e f => (r = r2 → K a b c d e f) ∧ (¬ r = r2 → False)) → G r a b c) : wp_X9_hear xb xc xh xs x q G := by
  have hE' := hE
  obtain ⟨n, s, h0, hn, hs, rfl, rfl, rfl, rfl⟩ := hR
  obtain ⟨c, hc, rfl, rfl, hi⟩ := hE
  have hnar : vp_nar .boolean q = q := by subst hq; cases w <;> decide
  unfold wp_X9_hear
  unfold wp_X10_hear at hG
  rcases rg x 0 (n - 1) with ⟨j, rfl, h1, h2, h3⟩ | hx
  · have hj : j < n := by omega
    refine sp_isBeat9T hj (by omega) ⟨fun _ => ?_, fun q => absurd q (by decide)⟩
    unfold wp_X1_add wp_X1_add_j16
    refine br_f (nI_pos (by omega)) ?_
    refine b_lt (b := 8) (by omega) (by omega) (fun q8 => ?_) (fun q8 => ?_)
    · have hv : vp_in (nI c) 8 := vp_in_nI q8 (by omega)
      refine ⟨hv, ?_⟩
      rintro g3 rfl
      refine ⟨hv, ?_⟩
      rintro g4 rfl
      rintro x5 rfl
      refine hG _ _ _ _ ?_
      refine sp_isBeat10T hj (by omega) ⟨fun _ => ?_, fun q => absurd q (by decide)⟩
      refine b_ne (b := 8) (by omega) (by omega) (fun _ => ?_) (fun q2 => by omega)
      refine ⟨hv, ?_⟩
      rintro g4 rfl
      refine ⟨hv, ?_⟩
      rintro g5 rfl
      rintro x6 rfl
      rw [nI_1, J_cl (by omega), hnar]
      refine eqk rfl (hK _ _ _ _ _ _ ⟨c + 1, by omega, rfl, rfl, fun i hi2 => ?_⟩)
      unfold upd
      by_cases e : i = c
      · simp only [if_pos e]
        exact ⟨j, w, by omega, rfl, rfl, hq, hq⟩
      · simp only [if_neg e]
        exact hi i (by omega)
    · refine hG _ _ _ _ ?_
      refine sp_isBeat10T hj (by omega) ⟨fun _ => ?_, fun q => absurd q (by decide)⟩
      refine b_ne (b := 8) (by omega) (by omega) (fun q2 => by omega) (fun _ => ?_)
      exact eqk rfl (hK _ _ _ _ _ _ hE')
  · have hx2 : x < 0 ∨ nI n ≤ x := by
      rcases hx with q | q
      · left; rw [fa_lt]; exact q
      · right; rw [fa_le, tI (by omega)]; omega
    refine sp_isBeat9F hx2 ⟨fun q => absurd rfl q, fun _ => hG _ _ _ _ ?_⟩
    refine sp_isBeat10F h0 (by omega) hx2 ⟨fun q => absurd rfl q, fun _ => ?_⟩
    exact eqk rfl (hK _ _ _ _ _ _ hE')
