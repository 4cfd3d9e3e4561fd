/-! ===== the reference's search ===== -/
theorem J_pre (b : Nat) : (nI b - 1) + 1 = nI b := by
  rw [show (1 : Int32) = nI 1 from rfl, Int32.sub_add_cancel]
theorem J_lvl (l : Nat) : nI (l + 1) + (-1) = nI l := pk_m1 l
def fAg (l : Nat) (f g : Nat → Int32) : Prop := ∀ j, j < l → g j = f j
theorem sp_find {n r most RM : Nat} {RT : Nat → Int32} {Q : Int32 → (Nat → Int32) → (Nat → Int32) → (Nat → Int32) → (Nat → Int32) → Prop} (h0 : 0 < n) (hn : n ≤ 24) (hr : r < 2 ^ n) (hmost : most ≤ 8192) (hk : 0 < bc r) (hQ : ∀ a b c, Q (nI RM) RT a b c) :
    ∀ (D l : Nat), l + D ≤ 25 → ∀ (m b : Nat), b + m = n → ∀ (c sh many : Nat) (tl fs fk fc : Nat → Int32) (rest : List Nat), c < 2 ^ n → sh < 2 ^ n → c ≠ 2 ^ n - 1 → n - bc c < D → many ≤ most → fk l = nI c → fs l = nI sh → fc l = nI b - 1 →
      app most (tk (tkid n r (tcov n r (D - 1)) c sh) m b ++ rest) many tl = (RM, RT) →
      (∀ (many2 : Nat) (tl2 fs2 fk2 fc2 : Nat → Int32), fAg l fs fs2 → fAg l fk fk2 → fAg l fc fc2 → many2 ≤ most → app most rest many2 tl2 = (RM, RT) → ∃ z, wp_X10_findTilings_h47 Q z (nI r) (nI n) (nI most) (nI many2) (nI l + (-1)) tl2 fs2 fk2 fc2) →
      ∃ z, wp_X10_findTilings_h47 Q z (nI r) (nI n) (nI most) (nI many) (nI l) tl fs fk fc := by
  have hp : 2 ^ n ≤ 2 ^ 24 := Nat.pow_le_pow_right (by omega) hn
  have hbr := bc_le hr (by omega : n ≤ 32)
  -- at the cap the loop ends
  have atcap : ∀ (lv : Int32) (tl fs fk fc : Nat → Int32) (l9 : List Nat), app most l9 most tl = (RM, RT) → ∃ z, wp_X10_findTilings_h47 Q z (nI r) (nI n) (nI most) (nI most) lv tl fs fk fc := by
    intro lv tl fs fk fc l9 h9
    rw [app_full (Nat.le_refl most)] at h9
    obtain ⟨rfl, rfl⟩ := Prod.mk.inj h9
    refine ⟨1, ?_⟩
    unfold wp_X10_findTilings_h47 wp_X10_findTilings_j243
    exact ⟨fun _ => hQ _ _ _, fun _ => br_t (nI_le (Nat.le_refl most) (by omega)) (hQ _ _ _)⟩
  intro D
  induction D with
  | zero => intro l _ m b _ c sh many tl fs fk fc rest _ _ _ hz; exact absurd hz (Nat.not_lt_zero _)
  | succ D ihD =>
    intro l hl m
    induction m with
    | zero =>
      intro b hb c sh many tl fs fk fc rest hc hsh hcf hz hmany e1 e2 e3 happ hK
      rw [Nat.add_zero] at hb
      subst hb
      by_cases hcap : many = most
      · subst hcap
        exact atcap _ tl fs fk fc _ happ
      obtain ⟨l1, l2, l3⟩ := lz_ok hc hcf
      obtain ⟨z, hz2⟩ := hK many tl fs fk (upd fc l (nI b)) (fun j _ => rfl) (fun j _ => rfl) (fun j hj => by unfold upd; rw [if_neg (by omega)]) hmany happ
      refine ⟨z + 1, ?_⟩
      unfold wp_X10_findTilings_h47
      refine br_f (nI_pos (by omega)) (br_f (nI_ge (by omega) (by omega)) ⟨vp_in_nI (by omega) (by omega), ?_⟩)
      refine sp_full10 (by omega) ?_
      rw [J_cl (by omega), e1]
      refine ⟨fun _ => ⟨vp_in_nI (by omega) (by omega), ?_⟩, fun q => absurd ((nI_eq (by omega) (by omega)).mp q) hcf⟩
      refine sp_firstFree (T := lz b c) (by omega) (by omega) l2 l3 ⟨vp_in_nI (by omega) (by omega), ?_⟩
      intro x6 e6
      rw [e3, J_pre] at e6
      subst e6
      refine ⟨vp_in_nI (by omega) (by omega), ?_⟩
      intro g7 e7
      have eg : g7 l = nI b := by rw [e7]; unfold upd; rw [if_pos rfl]
      refine ⟨vp_in_nI (by omega) (by omega), ?_⟩
      rw [eg]
      refine ⟨fun q => absurd rfl q, fun _ => ?_⟩
      intro x20 e20
      unfold wp_X10_findTilings_j240
      rw [e20, e7]
      exact hz2
    | succ m ihm =>
      intro b hb c sh many tl fs fk fc rest hc hsh hcf hz hmany e1 e2 e3 happ hK
      by_cases hcap : many = most
      · subst hcap
        exact atcap _ tl fs fk fc _ happ
      obtain ⟨l1, l2, l3⟩ := lz_ok hc hcf
      have hcn : bc c < n := by
        have h1 := bc_le hc (by omega : n ≤ 32)
        have h2 := bc_full (by omega : n ≤ 32) hc
        rcases Nat.lt_or_ge (bc c) n with q | q
        · exact q
        · exact absurd (h2.mp (by omega)) hcf
      generalize hF : tkid n r (tcov n r (D + 1 - 1)) c sh = F at happ
      have eTk : tk F (m + 1) b = F b ++ tk F m (b + 1) := rfl
      rw [eTk] at happ
      have eFb : F b = if r.testBit b then (if mv n r ((lz n c + n - b) % n) &&& c = 0 then tcov n r D (c ||| mv n r ((lz n c + n - b) % n)) (sh ||| 2 ^ ((lz n c + n - b) % n)) else []) else [] := by
        rw [← hF]; rfl
      -- going on with the next beat of this node
      have next : ∀ (many2 : Nat) (tl2 fs2 fk2 fc2 : Nat → Int32), fAg (l + 1) fs fs2 → fAg (l + 1) fk fk2 → fAg (l + 1) (upd fc l (nI b)) fc2 → many2 ≤ most → app most (tk F m (b + 1) ++ rest) many2 tl2 = (RM, RT) → ∃ z, wp_X10_findTilings_h47 Q z (nI r) (nI n) (nI most) (nI many2) (nI l) tl2 fs2 fk2 fc2 := by
        intro many2 tl2 fs2 fk2 fc2 a1 a2 a3 a4 a5
        refine ihm (b + 1) (by omega) c sh many2 tl2 fs2 fk2 fc2 rest hc hsh hcf hz a4 (by rw [a2 l (by omega)]; exact e1) (by rw [a1 l (by omega)]; exact e2) ?_ (by rw [hF]; exact a5) ?_
        · rw [a3 l (by omega), show (1 : Int32) = nI 1 from rfl, pk_sub (by omega), show b + 1 - 1 = b by omega]
          unfold upd
          rw [if_pos rfl]
        · intro m3 t3 s3 k3 c3 b1 b2 b3 b4 b5
          refine hK m3 t3 s3 k3 c3 (fun j hj => by rw [b1 j hj, a1 j (by omega)]) (fun j hj => by rw [b2 j hj, a2 j (by omega)]) (fun j hj => by rw [b3 j hj, a3 j (by omega)]; unfold upd; rw [if_neg (by omega)]) b4 b5
      -- the head of the loop, up to the beat
      have head : ∀ (z : Nat), (∀ (g7 : Nat → Int32), g7 = upd fc l (nI b) → g7 l = nI b → vp_in (nI l) 25 ∧ (¬ (g7 l) = nI n → (vp_in (nI l) 25 ∧ wp_X10_has (nI r) (g7 l) fun (r9 : Int32) => (r9 = 0 → (wp_X10_findTilings_j240 (wp_X10_findTilings_h47 Q z) Q (nI r) (nI n) (nI most) (nI many) (nI l) tl fs fk g7)) ∧ (¬ r9 = 0 → (vp_in (nI l) 25 ∧ (¬ (nI n : Int32) = 0) ∧ ∀ x11 : Int32, x11 = (((nI (lz n c) - (g7 l)) + nI n) - ((nI (lz n c) - (g7 l)) + nI n) / nI n * nI n) → wp_X10_moved (nI r) x11 (nI n) fun (r12 : Int32) => vp_in (nI l) 25 ∧ (¬ (r12 &&& (nI c)) = 0 → (wp_X10_findTilings_j240 (wp_X10_findTilings_h47 Q z) Q (nI r) (nI n) (nI most) (nI many) (nI l) tl fs fk g7)) ∧ ((r12 &&& (nI c)) = 0 → (vp_in (nI l) 25 ∧ ∀ x14 : Int32, x14 = ((nI sh) ||| (1 <<< (x11 &&& 31))) → vp_in (nI l + 1) 25 ∧ ∀ g15 : Nat → Int32, g15 = upd fs ((nI l + 1) : Int32).toNatClampNeg x14 → vp_in (nI l) 25 ∧ ∀ x16 : Int32, x16 = ((nI c) ||| r12) → vp_in (nI l + 1) 25 ∧ ∀ g17 : Nat → Int32, g17 = upd fk ((nI l + 1) : Int32).toNatClampNeg x16 → vp_in (nI l + 1) 25 ∧ ∀ g18 : Nat → Int32, g18 = upd g7 ((nI l + 1) : Int32).toNatClampNeg (-1) → ∀ x19 : Int32, x19 = nI l + 1 → wp_X10_findTilings_j240 (wp_X10_findTilings_h47 Q z) Q (nI r) (nI n) (nI most) (nI many) x19 tl g15 g17 g18))))))) → wp_X10_findTilings_h47 Q (z + 1) (nI r) (nI n) (nI most) (nI many) (nI l) tl fs fk fc := by
        intro z H
        unfold wp_X10_findTilings_h47
        refine br_f (nI_pos (by omega)) (br_f (nI_ge (by omega) (by omega)) ⟨vp_in_nI (by omega) (by omega), ?_⟩)
        refine sp_full10 (by omega) ?_
        rw [J_cl (by omega), e1, e2]
        refine ⟨fun _ => ⟨vp_in_nI (by omega) (by omega), ?_⟩, fun q => absurd ((nI_eq (by omega) (by omega)).mp q) hcf⟩
        refine sp_firstFree (T := lz n c) (by omega) (by omega) l2 l3 ⟨vp_in_nI (by omega) (by omega), ?_⟩
        intro x6 e6
        rw [e3, J_pre] at e6
        subst e6
        refine ⟨vp_in_nI (by omega) (by omega), ?_⟩
        intro g7 e7
        have eg : g7 l = nI b := by rw [e7]; unfold upd; rw [if_pos rfl]
        obtain ⟨H1, H2⟩ := H g7 e7 eg
        exact ⟨H1, H2, fun q => absurd ((nI_eq (a := b) (b := n) (by omega) (by omega)).mp (by rw [← eg]; exact q)) (by omega)⟩
      have hrest : app most (F b ++ (tk F m (b + 1) ++ rest)) many tl = (RM, RT) := by rw [← List.append_assoc]; exact happ
      by_cases hbit : r.testBit b = true
      · rw [if_pos hbit] at eFb
        have htm := Nat.mod_lt (lz n c + n - b) h0
        have eT : ∀ (g : Int32), g = nI b → ((nI (lz n c) - g) + nI n) - ((nI (lz n c) - g) + nI n) / nI n * nI n = nI ((lz n c + n - b) % n) := by
          intro g hg
          have e : nI (lz n c) - g + nI n = nI (lz n c + n - b) := by
            rw [hg]
            apply Int32.toInt_inj.mp
            rw [Int32.toInt_add, pk_sub_toInt (by omega) (by omega), nI_toInt (by omega), nI_toInt (by omega), Int.bmod_eq_of_le (by omega) (by omega)]
            omega
          rw [e, pk_rem (by omega) h0 (by omega)]
        generalize (lz n c + n - b) % n = t at htm eFb eT
        have hm := mv_lt n r t
        have hand : mv n r t &&& c < 2 ^ n := Nat.and_lt_two_pow _ hc
        by_cases hz0 : mv n r t &&& c = 0
        · rw [if_pos hz0] at eFb
          have hbc2 : bc (c ||| mv n r t) = bc c + bc r := by
            rw [bc_or (by omega : n ≤ 32) hc hm (by rw [Nat.and_comm]; exact hz0), bc_mv hr (by omega) htm]
          have hc2 := Nat.or_lt_two_pow hc hm
          have hsh2 : sh ||| 2 ^ t < 2 ^ n := Nat.or_lt_two_pow hsh (Nat.pow_lt_pow_right (by omega) htm)
          have hl25 : l + 1 < 25 := by omega
          -- the new node
          have child : ∃ z, wp_X10_findTilings_h47 Q z (nI r) (nI n) (nI most) (nI many) (nI (l + 1)) tl (upd fs (l + 1) (nI (sh ||| 2 ^ t))) (upd fk (l + 1) (nI (c ||| mv n r t))) (upd (upd fc l (nI b)) (l + 1) (-1)) := by
            have agree : ∀ (f : Nat → Int32) (x : Int32), fAg (l + 1) f (upd f (l + 1) x) := fun f x j hj => by unfold upd; rw [if_neg (by omega)]
            have same : ∀ (f : Nat → Int32) (x : Int32), upd f (l + 1) x (l + 1) = x := fun f x => by unfold upd; rw [if_pos rfl]
            by_cases hfull : c ||| mv n r t = 2 ^ n - 1
            · -- a tiling
              obtain ⟨D', rfl⟩ : ∃ e, D = e + 1 := ⟨D - 1, by omega⟩
              have eL : F b = [sh ||| 2 ^ t] := by rw [eFb, tcov, if_pos hfull]
              rw [eL, List.cons_append, app_cons, if_pos (by omega), List.nil_append] at hrest
              obtain ⟨z, hz2⟩ := next (many + 1) (upd tl many (nI (sh ||| 2 ^ t))) (upd fs (l + 1) (nI (sh ||| 2 ^ t))) (upd fk (l + 1) (nI (c ||| mv n r t))) (upd (upd fc l (nI b)) (l + 1) (-1)) (agree _ _) (agree _ _) (agree _ _) (by omega) hrest
              refine ⟨z + 1, ?_⟩
              unfold wp_X10_findTilings_h47
              refine br_f (nI_pos (by omega)) (br_f (nI_ge (by omega) (by omega)) ⟨vp_in_nI (by omega) (by omega), ?_⟩)
              refine sp_full10 (by omega) ?_
              rw [J_cl (by omega), same, same]
              refine ⟨fun q => absurd (by rw [hfull]) q, fun _ => ⟨vp_in_nI (by omega) (by omega), ?_⟩⟩
              intro x21 e21
              refine ⟨vp_in_nI (by omega) (by omega), ?_⟩
              intro g22 e22 x23 e23 x24 e24
              rw [J_cl (by omega), e21, same] at e22
              rw [nI_1] at e23
              rw [J_lvl] at e24
              rw [e22, e23, e24]
              exact hz2
            · have eL : F b = tk (tkid n r (tcov n r (D - 1)) (c ||| mv n r t) (sh ||| 2 ^ t)) n 0 := by
                obtain ⟨D', rfl⟩ : ∃ e, D = e + 1 := ⟨D - 1, by omega⟩
                rw [eFb, tcov, if_neg hfull]
                rfl
              rw [eL] at hrest
              refine ihD (l + 1) (by omega) n 0 (by omega) (c ||| mv n r t) (sh ||| 2 ^ t) many tl _ _ _ (tk F m (b + 1) ++ rest) hc2 hsh2 hfull (by omega) hmany (same _ _) (same _ _) (by rw [same]; decide) hrest ?_
              intro m3 t3 s3 k3 c3 b1 b2 b3 b4 b5
              rw [J_lvl]
              exact next m3 t3 s3 k3 c3 (fun j hj => by rw [b1 j hj, agree _ _ j hj]) (fun j hj => by rw [b2 j hj, agree _ _ j hj]) (fun j hj => by rw [b3 j hj, agree _ _ j hj]) b4 b5
          obtain ⟨z, hz2⟩ := child
          refine ⟨z + 1, head z ?_⟩
          intro g7 e7 eg
          refine ⟨vp_in_nI (by omega) (by omega), fun _ => ⟨vp_in_nI (by omega) (by omega), ?_⟩⟩
          rw [eg]
          refine sp_has (by omega) (by omega) ?_
          rw [hbit]
          refine ⟨fun q => absurd q (by decide), fun _ => ⟨vp_in_nI (by omega) (by omega), nI_ne0 h0 (by omega), ?_⟩⟩
          intro x11 e11
          rw [eT _ rfl] at e11
          subst e11
          refine sp_moved10 h0 hn hr (by omega) ?_
          rw [Nat.mod_eq_of_lt htm, fa_and, hz0]
          refine ⟨vp_in_nI (by omega) (by omega), fun q => absurd rfl q, fun _ => ⟨vp_in_nI (by omega) (by omega), ?_⟩⟩
          intro x14 e14
          rw [J_shl1 (by omega), fa_or] at e14
          rw [nI_1]
          refine ⟨vp_in_nI (by omega) (by omega), ?_⟩
          intro g15 e15
          refine ⟨vp_in_nI (by omega) (by omega), ?_⟩
          intro x16 e16
          rw [fa_or] at e16
          refine ⟨vp_in_nI (by omega) (by omega), ?_⟩
          intro g17 e17
          refine ⟨vp_in_nI (by omega) (by omega), ?_⟩
          intro g18 e18 x19 e19
          rw [J_cl (by omega)] at e15 e17 e18
          unfold wp_X10_findTilings_j240
          rw [e19, e15, e14, e17, e16, e18, e7]
          exact hz2
        · rw [if_neg hz0] at eFb
          rw [eFb, List.nil_append] at hrest
          obtain ⟨z, hz2⟩ := next many tl fs fk (upd fc l (nI b)) (fun _ _ => rfl) (fun _ _ => rfl) (fun _ _ => rfl) hmany hrest
          refine ⟨z + 1, head z ?_⟩
          intro g7 e7 eg
          refine ⟨vp_in_nI (by omega) (by omega), fun _ => ⟨vp_in_nI (by omega) (by omega), ?_⟩⟩
          rw [eg]
          refine sp_has (by omega) (by omega) ?_
          rw [hbit]
          refine ⟨fun q => absurd q (by decide), fun _ => ⟨vp_in_nI (by omega) (by omega), nI_ne0 h0 (by omega), ?_⟩⟩
          intro x11 e11
          rw [eT _ rfl] at e11
          subst e11
          refine sp_moved10 h0 hn hr (by omega) ?_
          rw [Nat.mod_eq_of_lt htm, fa_and]
          refine ⟨vp_in_nI (by omega) (by omega), fun _ => ?_, fun q => absurd ((J_eq0 (by omega)).mp q) hz0⟩
          unfold wp_X10_findTilings_j240
          rw [e7]
          exact hz2
      · rw [if_neg hbit] at eFb
        rw [eFb, List.nil_append] at hrest
        obtain ⟨z, hz2⟩ := next many tl fs fk (upd fc l (nI b)) (fun _ _ => rfl) (fun _ _ => rfl) (fun _ _ => rfl) hmany hrest
        refine ⟨z + 1, head z ?_⟩
        intro g7 e7 eg
        refine ⟨vp_in_nI (by omega) (by omega), fun _ => ⟨vp_in_nI (by omega) (by omega), ?_⟩⟩
        rw [eg]
        refine sp_has (by omega) (by omega) ?_
        rw [show r.testBit b = false by simpa using hbit]
        refine ⟨fun _ => ?_, fun q => absurd rfl q⟩
        unfold wp_X10_findTilings_j240
        rw [e7]
        exact hz2
/-- all tilings, in the order in which they are found -/
def tls (n r : Nat) : List Nat := if bc r = 0 ∨ n % bc r ≠ 0 then [] else tcov n r 24 r 1
theorem sp_findTilings {n r most : Nat} {tl fs fk fc : Nat → Int32} {Q : Int32 → (Nat → Int32) → (Nat → Int32) → (Nat → Int32) → (Nat → Int32) → Prop} (h0 : 0 < n) (hn : n ≤ 24) (hr : r < 2 ^ n) (hmost : most ≤ 8192) (h1m : 0 < most) (hQ : ∀ a b c, Q (nI (app most (tls n r) 0 tl).1) (app most (tls n r) 0 tl).2 a b c) : wp_X10_findTilings tl fs fk fc (nI r) (nI n) (nI most) Q := by
  have hp : 2 ^ n ≤ 2 ^ 24 := Nat.pow_le_pow_right (by omega) hn
  have hbr := bc_le hr (by omega : n ≤ 32)
  unfold wp_X10_findTilings wp_X10_findTilings_j21
  refine sp_bits (by omega) ?_
  unfold tls at hQ
  refine b_eq (b := 0) (by omega) (by omega) (fun q => ?_) (fun q => ⟨nI_ne0 (by omega) (by omega), ?_⟩)
  · rw [if_pos (Or.inl q)] at hQ
    exact hQ _ _ _
  · rw [pk_rem (by omega) (by omega) (by omega)]
    have hm := Nat.mod_lt n (show 0 < bc r by omega)
    refine b_eq (b := 0) (by omega) (by omega) (fun q2 => ?_) (fun q2 => ?_)
    · rw [if_neg (by omega)] at hQ
      refine ⟨vp_in_nI (n := 0) (by omega) (by omega), ?_⟩
      intro g28 e28
      refine ⟨vp_in_nI (n := 0) (by omega) (by omega), ?_⟩
      intro g29 e29
      refine ⟨vp_in_nI (n := 0) (by omega) (by omega), ?_⟩
      intro g30 e30
      rw [sb_cl0] at e28 e29 e30
      have c1 : g28 0 = nI 1 := by rw [e28]; rfl
      have c2 : g29 0 = nI r := by rw [e29]; rfl
      have c3 : g30 0 = nI 0 - 1 := by rw [e30]; rfl
      by_cases hf : r = 2 ^ n - 1
      · have eL : tcov n r 24 r 1 = [1] := by
          show (if r = 2 ^ n - 1 then [1] else _) = [1]
          rw [if_pos hf]
        rw [eL, app_cons, if_pos h1m] at hQ
        refine ⟨2, ?_⟩
        unfold wp_X10_findTilings_h47
        refine br_f (by decide) (br_f (nI_ge (a := 0) (by omega) (by omega)) ⟨vp_in_nI (n := 0) (by omega) (by omega), ?_⟩)
        refine sp_full10 (by omega) ?_
        rw [sb_cl0, c2]
        refine ⟨fun q => absurd (by rw [← hf]) q, fun _ => ⟨vp_in_nI (n := 0) (by omega) (by omega), ?_⟩⟩
        intro x21 e21
        refine ⟨vp_in_nI (n := 0) (by omega) (by omega), ?_⟩
        intro g22 e22 x23 e23 x24 e24
        rw [e21, c1] at e22
        unfold wp_X10_findTilings_h47 wp_X10_findTilings_j243
        refine br_t (by rw [e24]; decide) ?_
        rw [e22, e23]
        exact hQ _ _ _
      · have eL : tcov n r 24 r 1 = tk (tkid n r (tcov n r 23) r 1) n 0 := by
          show (if r = 2 ^ n - 1 then [1] else tk (tkid n r (tcov n r 23) r 1) n 0) = _
          rw [if_neg hf]
        rw [eL] at hQ
        refine sp_find (l := 0) (D := 24) (RM := (app most (tk (tkid n r (tcov n r 23) r 1) n 0) 0 tl).1) (RT := (app most (tk (tkid n r (tcov n r 23) r 1) n 0) 0 tl).2) h0 hn hr hmost (by omega) hQ (by omega) n 0 (by omega) r 1 0 tl g28 g29 g30 [] hr (by have := Nat.pow_le_pow_right (show 0 < 2 by omega) h0; omega) hf (by omega) (by omega) c2 c1 c3 (by rw [List.append_nil]) ?_
        intro m2 t2 s2 k2 c2' _ _ _ _ happ
        obtain ⟨rfl, rfl⟩ := Prod.mk.inj happ
        refine ⟨1, ?_⟩
        unfold wp_X10_findTilings_h47 wp_X10_findTilings_j243
        exact br_t (by decide) (hQ _ _ _)
    · rw [if_pos (Or.inr q2)] at hQ
      exact hQ _ _ _
