/-! ===== what is told ===== -/
theorem lk_ok {n r : Nat} (h : lk n r < 4) : lsf n r (lk n r) < 2 ^ n := by
  have h1 := fa_first_yes (fun k => decide (lsf n r k < 2 ^ n)) 4 h
  exact of_decide_eq_true h1
theorem sp_sizeOf {n r : Nat} {Q : Int32 → Prop} (hn : n ≤ 24) (h : Q (if lk n r < 4 then nI (lk n r) else -1)) : wp_X3_sizeOf (if lk n r < 4 then nI (lsf n r (lk n r)) else -1) Q := by
  have hp : 2 ^ n ≤ 2 ^ 24 := Nat.pow_le_pow_right (by omega) hn
  unfold wp_X3_sizeOf wp_X3_sizeOf_j13
  by_cases q : lk n r < 4
  · have hl := lk_ok q
    rw [if_pos q] at h ⊢
    refine ⟨fun _ => sp_bitCount (by omega) ?_, fun q2 => absurd q2 (J_ne1 (by omega))⟩
    rw [lsf_bc hl]
    exact h
  · rw [if_neg q] at h ⊢
    exact ⟨fun q2 => absurd rfl q2, fun _ => h⟩
theorem cs_told {xb xr mb mr x sc cnt bt rt eb er em psc pcnt pbt prt mcnt mbt mrt mls mnb xtc xpc xec mtl mun mhd : Int32} {f gs pf pgs mf ma mb2 mc : Nat → Int32} {V : Prop} {K : Int32 → Int32 → Int32 → Int32 → (Nat → Int32) → (Nat → Int32) → Int32 → Int32 → Int32 → Int32 → Int32 → Int32 → Int32 → (Nat → Int32) → (Nat → Int32) → Int32 → Int32 → Int32 → Int32 → Int32 → (Nat → Int32) → (Nat → Int32) → (Nat → Int32) → (Nat → Int32) → Prop} (hR : Rh xb xr mb mr) (hT : Tc 2187 cnt bt rt f) (hE : Md eb er em) (hT1 : Tc 1 pcnt pbt prt pf) (hM : Tm mcnt mbt mrt mf) (e14 : xtc = mtl) (e15 : xec = mhd) (e16 : xpc = mun) (hV : V) (hK : ∀ a1 a2 a3 a4 a5 a6 a7 a8 a9 a10 a11 a12 a13 a14 a15 b1 b2 b3 b4 b5 b6 b7 b8 b9, Tc 2187 a2 a3 a4 a5 → Md a7 a8 a9 → Tc 1 a11 a12 a13 a14 → Tm b1 b2 b3 b6 → K a1 a2 a3 a4 a5 a6 a7 a8 a9 a10 a11 a12 a13 a14 a15 b1 b2 b3 b4 b5 b6 b7 b8 b9) : wp_X9_told xb xr xtc xpc xec sc cnt bt rt f gs eb er em psc pcnt pbt prt pf pgs x fun r a1 a2 a3 a4 a5 a6 a7 a8 a9 a10 a11 a12 a13 a14 a15 => V ∧ wp_X10_told mb mr mun mhd mtl mcnt mbt mrt mls mnb mf ma mb2 mc x fun r2 b1 b2 b3 b4 b5 b6 b7 b8 b9 => (r = r2 → K a1 a2 a3 a4 a5 a6 a7 a8 a9 a10 a11 a12 a13 a14 a15 b1 b2 b3 b4 b5 b6 b7 b8 b9) ∧ (¬ r = r2 → False) := by
  obtain ⟨n, s, h0, hn, hs, rfl, rfl, rfl, rfl⟩ := hR
  have hp : 2 ^ n ≤ 2 ^ 24 := Nat.pow_le_pow_right (by omega) hn
  have hlen := tls_len h0 hn hs
  have hbs := bc_le hs (by omega : n ≤ 32)
  have hTm : ∀ f2, Tok n s f2 → Tm (nI (tls n s).length) (nI n) (nI s) f2 := fun f2 ht => Or.inr ⟨n, s, h0, hn, hs, rfl, rfl, rfl, ht⟩
  have hTc : ∀ f2, ((tls n s).length ≤ 2187 → Tok n s f2) → Tc 2187 (nI (min 2187 (tls n s).length)) (nI n) (nI s) f2 := fun f2 ht => Or.inr ⟨n, s, h0, hn, hs, rfl, rfl, rfl, ht⟩
  have hMd : Md (nI n) (nI s) (if lk n s < 4 then nI (lsf n s (lk n s)) else -1) := Or.inr ⟨n, s, h0, hn, hs, rfl, rfl, rfl⟩
  have hKK : ∀ ls nb, K sc cnt bt rt f gs eb er em psc pcnt pbt prt pf pgs mcnt mbt mrt ls nb mf ma mb2 mc := fun ls nb => hK _ _ _ _ _ _ _ _ _ _ _ _ _ _ _ _ _ _ _ _ _ _ _ _ hT hE hT1 hM
  unfold wp_X9_told wp_X10_told wp_X9_told_j207 wp_X10_told_j201 wp_X10_told_j202 wp_X10_told_j214 wp_X10_told_j152 wp_X10_told_j164 wp_X10_told_j131 wp_X10_told_j143 wp_X10_tilingsTold wp_X10_toldNecklace wp_X10_toldNecklace_j17 wp_X10_toldLeast wp_X10_toldLeast_j17
  refine ⟨fun q => ?_, fun q => ?_, fun q => ?_, fun q => ?_, fun q => ?_, fun q => ?_, fun q => ?_, fun q => ?_, fun q => ?_, fun q => ?_, fun q => ?_, fun q => ?_, fun q => ?_, fun q => ?_, fun q => ?_, fun q => ?_, fun q => ?_, fun q => ?_⟩
  · subst q
    exact ⟨hV, ⟨fun _ => eqk rfl (hKK _ _), fun q => absurd q (by decide), fun q => absurd q (by decide), fun q => absurd q (by decide), fun q => absurd q (by decide), fun q => absurd q (by decide), fun q => absurd q (by decide), fun q => absurd q (by decide), fun q => absurd q (by decide), fun q => absurd q (by decide), fun q => absurd q (by decide), fun q => absurd q (by decide), fun q => absurd q (by decide), fun q => absurd q (by decide), fun q => absurd q (by decide), fun q => absurd q (by decide), fun q => absurd q (by decide), fun q => absurd q (by decide)⟩⟩
  · subst q
    exact sp_bitCount (by omega) ⟨hV, ⟨fun q => absurd q (by decide), fun _ => sp_bits (by omega) (eqk rfl (hKK _ _)), fun q => absurd q (by decide), fun q => absurd q (by decide), fun q => absurd q (by decide), fun q => absurd q (by decide), fun q => absurd q (by decide), fun q => absurd q (by decide), fun q => absurd q (by decide), fun q => absurd q (by decide), fun q => absurd q (by decide), fun q => absurd q (by decide), fun q => absurd q (by decide), fun q => absurd q (by decide), fun q => absurd q (by decide), fun q => absurd q (by decide), fun q => absurd q (by decide), fun q => absurd q (by decide)⟩⟩
  · subst q
    exact ⟨hV, ⟨fun q => absurd q (by decide), fun q => absurd q (by decide), fun _ => eqk rfl (hKK _ _), fun q => absurd q (by decide), fun q => absurd q (by decide), fun q => absurd q (by decide), fun q => absurd q (by decide), fun q => absurd q (by decide), fun q => absurd q (by decide), fun q => absurd q (by decide), fun q => absurd q (by decide), fun q => absurd q (by decide), fun q => absurd q (by decide), fun q => absurd q (by decide), fun q => absurd q (by decide), fun q => absurd q (by decide), fun q => absurd q (by decide), fun q => absurd q (by decide)⟩⟩
  · subst q
    refine sp_of h0 hn hs (by omega) hT (fun sc2 f2 gs2 ht2 => ⟨hV, ⟨fun q => absurd q (by decide), fun q => absurd q (by decide), fun q => absurd q (by decide), fun _ => ?_, fun q => absurd q (by decide), fun q => absurd q (by decide), fun q => absurd q (by decide), fun q => absurd q (by decide), fun q => absurd q (by decide), fun q => absurd q (by decide), fun q => absurd q (by decide), fun q => absurd q (by decide), fun q => absurd q (by decide), fun q => absurd q (by decide), fun q => absurd q (by decide), fun q => absurd q (by decide), fun q => absurd q (by decide), fun q => absurd q (by decide)⟩⟩)
    refine sp_lay h0 hn hs hM (fun f3 a b c ht3 => ?_)
    exact eqk (by rw [Nat.min_eq_right hlen]) (hK _ _ _ _ _ _ _ _ _ _ _ _ _ _ _ _ _ _ _ _ _ _ _ _ (hTc f2 ht2) hE hT1 (hTm f3 ht3))
  · subst q
    exact sp_period h0 hn hs ⟨hV, ⟨fun q => absurd q (by decide), fun q => absurd q (by decide), fun q => absurd q (by decide), fun q => absurd q (by decide), fun _ => sp_periodOf h0 hn hs (eqk rfl (hKK _ _)), fun q => absurd q (by decide), fun q => absurd q (by decide), fun q => absurd q (by decide), fun q => absurd q (by decide), fun q => absurd q (by decide), fun q => absurd q (by decide), fun q => absurd q (by decide), fun q => absurd q (by decide), fun q => absurd q (by decide), fun q => absurd q (by decide), fun q => absurd q (by decide), fun q => absurd q (by decide), fun q => absurd q (by decide)⟩⟩
  · subst q
    exact sp_value hn hs ⟨hV, ⟨fun q => absurd q (by decide), fun q => absurd q (by decide), fun q => absurd q (by decide), fun q => absurd q (by decide), fun q => absurd q (by decide), fun _ => sp_valueOf hn hs (eqk rfl (hKK _ _)), fun q => absurd q (by decide), fun q => absurd q (by decide), fun q => absurd q (by decide), fun q => absurd q (by decide), fun q => absurd q (by decide), fun q => absurd q (by decide), fun q => absurd q (by decide), fun q => absurd q (by decide), fun q => absurd q (by decide), fun q => absurd q (by decide), fun q => absurd q (by decide), fun q => absurd q (by decide)⟩⟩
  · subst q
    refine sp_least h0 hn hs ⟨hV, ⟨fun q => absurd q (by decide), fun q => absurd q (by decide), fun q => absurd q (by decide), fun q => absurd q (by decide), fun q => absurd q (by decide), fun q => absurd q (by decide), fun _ => ?_, fun q => absurd q (by decide), fun q => absurd q (by decide), fun q => absurd q (by decide), fun q => absurd q (by decide), fun q => absurd q (by decide), fun q => absurd q (by decide), fun q => absurd q (by decide), fun q => absurd q (by decide), fun q => absurd q (by decide), fun q => absurd q (by decide), fun q => absurd q (by decide)⟩⟩
    exact ⟨fun _ => sp_necklace h0 hn hs ⟨fun _ => eqk rfl (hKK _ _), fun q => absurd rfl q⟩, fun q => absurd q (by decide)⟩
  · subst q
    refine sp_leastTurn h0 hn hs ⟨hV, ⟨fun q => absurd q (by decide), fun q => absurd q (by decide), fun q => absurd q (by decide), fun q => absurd q (by decide), fun q => absurd q (by decide), fun q => absurd q (by decide), fun q => absurd q (by decide), fun _ => ?_, fun q => absurd q (by decide), fun q => absurd q (by decide), fun q => absurd q (by decide), fun q => absurd q (by decide), fun q => absurd q (by decide), fun q => absurd q (by decide), fun q => absurd q (by decide), fun q => absurd q (by decide), fun q => absurd q (by decide), fun q => absurd q (by decide)⟩⟩
    exact ⟨fun q => absurd rfl q, fun _ => sp_necklace h0 hn hs ⟨fun q => absurd q (by decide), fun _ => eqk rfl (hKK _ _)⟩⟩
  · subst q
    refine sp_laterNecklace h0 hn hs (fun y hy => ⟨hV, ⟨fun q => absurd q (by decide), fun q => absurd q (by decide), fun q => absurd q (by decide), fun q => absurd q (by decide), fun q => absurd q (by decide), fun q => absurd q (by decide), fun q => absurd q (by decide), fun q => absurd q (by decide), fun _ => ?_, fun q => absurd q (by decide), fun q => absurd q (by decide), fun q => absurd q (by decide), fun q => absurd q (by decide), fun q => absurd q (by decide), fun q => absurd q (by decide), fun q => absurd q (by decide), fun q => absurd q (by decide), fun q => absurd q (by decide)⟩⟩)
    exact sp_later10 h0 hn hs (fun y2 hy2 => eqk (nx_one hy hy2) (hKK _ _))
  · subst q
    refine sp_leastGap hn hs ⟨hV, ⟨fun q => absurd q (by decide), fun q => absurd q (by decide), fun q => absurd q (by decide), fun q => absurd q (by decide), fun q => absurd q (by decide), fun q => absurd q (by decide), fun q => absurd q (by decide), fun q => absurd q (by decide), fun q => absurd q (by decide), fun _ => ?_, fun q => absurd q (by decide), fun q => absurd q (by decide), fun q => absurd q (by decide), fun q => absurd q (by decide), fun q => absurd q (by decide), fun q => absurd q (by decide), fun q => absurd q (by decide), fun q => absurd q (by decide)⟩⟩
    exact ⟨fun q => absurd rfl q, fun _ => sp_widest (b := true) h0 hn hs (eqk rfl (hKK _ _))⟩
  · subst q
    refine sp_greatestGap hn hs ⟨hV, ⟨fun q => absurd q (by decide), fun q => absurd q (by decide), fun q => absurd q (by decide), fun q => absurd q (by decide), fun q => absurd q (by decide), fun q => absurd q (by decide), fun q => absurd q (by decide), fun q => absurd q (by decide), fun q => absurd q (by decide), fun q => absurd q (by decide), fun _ => ?_, fun q => absurd q (by decide), fun q => absurd q (by decide), fun q => absurd q (by decide), fun q => absurd q (by decide), fun q => absurd q (by decide), fun q => absurd q (by decide), fun q => absurd q (by decide)⟩⟩
    exact ⟨fun _ => sp_widest (b := false) h0 hn hs (eqk rfl (hKK _ _)), fun q => absurd q (by decide)⟩
  · subst q
    refine sp_isMostEven h0 hn hs ?_
    by_cases qe : nk n s = nk n (evf n (bc s) n)
    · rw [if_pos qe]
      refine ⟨fun q => absurd q (by decide), fun _ => ⟨hV, ⟨fun q => absurd q (by decide), fun q => absurd q (by decide), fun q => absurd q (by decide), fun q => absurd q (by decide), fun q => absurd q (by decide), fun q => absurd q (by decide), fun q => absurd q (by decide), fun q => absurd q (by decide), fun q => absurd q (by decide), fun q => absurd q (by decide), fun q => absurd q (by decide), fun _ => ?_, fun q => absurd q (by decide), fun q => absurd q (by decide), fun q => absurd q (by decide), fun q => absurd q (by decide), fun q => absurd q (by decide), fun q => absurd q (by decide)⟩⟩⟩
      refine sp_bits (by omega) (sp_evenOf h0 hn hbs (sp_isMoved h0 hn (evf_lt _ _ _) hs ?_))
      rw [if_pos qe.symm]
      exact ⟨fun q => absurd q (by decide), fun _ => eqk rfl (hKK _ _)⟩
    · rw [if_neg qe]
      refine ⟨fun _ => ⟨hV, ⟨fun q => absurd q (by decide), fun q => absurd q (by decide), fun q => absurd q (by decide), fun q => absurd q (by decide), fun q => absurd q (by decide), fun q => absurd q (by decide), fun q => absurd q (by decide), fun q => absurd q (by decide), fun q => absurd q (by decide), fun q => absurd q (by decide), fun q => absurd q (by decide), fun _ => ?_, fun q => absurd q (by decide), fun q => absurd q (by decide), fun q => absurd q (by decide), fun q => absurd q (by decide), fun q => absurd q (by decide), fun q => absurd q (by decide)⟩⟩, fun q => absurd rfl q⟩
      refine sp_bits (by omega) (sp_evenOf h0 hn hbs (sp_isMoved h0 hn (evf_lt _ _ _) hs ?_))
      rw [if_neg (fun q => qe q.symm)]
      exact ⟨fun _ => eqk rfl (hKK _ _), fun q => absurd rfl q⟩
  · subst q
    refine sp_mend h0 hn hs hE hT1 (fun sc2 cnt2 pb2 pr2 f2 gs2 ht2 => sp_sizeOf hn ?_)
    refine ⟨hV, ⟨fun q => absurd q (by decide), fun q => absurd q (by decide), fun q => absurd q (by decide), fun q => absurd q (by decide), fun q => absurd q (by decide), fun q => absurd q (by decide), fun q => absurd q (by decide), fun q => absurd q (by decide), fun q => absurd q (by decide), fun q => absurd q (by decide), fun q => absurd q (by decide), fun q => absurd q (by decide), fun _ => ?_, fun q => absurd q (by decide), fun q => absurd q (by decide), fun q => absurd q (by decide), fun q => absurd q (by decide), fun q => absurd q (by decide)⟩⟩
    refine ⟨fun _ => sp_leastMany h0 hn hs (fun a b c d => ⟨fun _ => ?_, fun q => absurd rfl q⟩), fun q => absurd q (by decide)⟩
    exact eqk rfl (hK _ _ _ _ _ _ _ _ _ _ _ _ _ _ _ _ _ _ _ _ _ _ _ _ hT hMd ht2 (Or.inl rfl))
  · subst q
    refine sp_mend h0 hn hs hE hT1 (fun sc2 cnt2 pb2 pr2 f2 gs2 ht2 => ?_)
    refine ⟨hV, ⟨fun q => absurd q (by decide), fun q => absurd q (by decide), fun q => absurd q (by decide), fun q => absurd q (by decide), fun q => absurd q (by decide), fun q => absurd q (by decide), fun q => absurd q (by decide), fun q => absurd q (by decide), fun q => absurd q (by decide), fun q => absurd q (by decide), fun q => absurd q (by decide), fun q => absurd q (by decide), fun q => absurd q (by decide), fun _ => ?_, fun q => absurd q (by decide), fun q => absurd q (by decide), fun q => absurd q (by decide), fun q => absurd q (by decide)⟩⟩
    refine ⟨fun q => absurd rfl q, fun _ => sp_leastMany h0 hn hs (fun a b c d => ⟨fun q => absurd q (by decide), fun _ => ?_⟩)⟩
    exact eqk rfl (hK _ _ _ _ _ _ _ _ _ _ _ _ _ _ _ _ _ _ _ _ _ _ _ _ hT hMd ht2 (Or.inl rfl))
  · subst q
    exact ⟨hV, ⟨fun q => absurd q (by decide), fun q => absurd q (by decide), fun q => absurd q (by decide), fun q => absurd q (by decide), fun q => absurd q (by decide), fun q => absurd q (by decide), fun q => absurd q (by decide), fun q => absurd q (by decide), fun q => absurd q (by decide), fun q => absurd q (by decide), fun q => absurd q (by decide), fun q => absurd q (by decide), fun q => absurd q (by decide), fun q => absurd q (by decide), fun _ => eqk e14 (hKK _ _), fun q => absurd q (by decide), fun q => absurd q (by decide), fun q => absurd q (by decide)⟩⟩
  · subst q
    exact ⟨hV, ⟨fun q => absurd q (by decide), fun q => absurd q (by decide), fun q => absurd q (by decide), fun q => absurd q (by decide), fun q => absurd q (by decide), fun q => absurd q (by decide), fun q => absurd q (by decide), fun q => absurd q (by decide), fun q => absurd q (by decide), fun q => absurd q (by decide), fun q => absurd q (by decide), fun q => absurd q (by decide), fun q => absurd q (by decide), fun q => absurd q (by decide), fun q => absurd q (by decide), fun _ => eqk e15 (hKK _ _), fun q => absurd q (by decide), fun q => absurd q (by decide)⟩⟩
  · subst q
    exact ⟨hV, ⟨fun q => absurd q (by decide), fun q => absurd q (by decide), fun q => absurd q (by decide), fun q => absurd q (by decide), fun q => absurd q (by decide), fun q => absurd q (by decide), fun q => absurd q (by decide), fun q => absurd q (by decide), fun q => absurd q (by decide), fun q => absurd q (by decide), fun q => absurd q (by decide), fun q => absurd q (by decide), fun q => absurd q (by decide), fun q => absurd q (by decide), fun q => absurd q (by decide), fun q => absurd q (by decide), fun _ => eqk e16 (hKK _ _), fun q => absurd q (by decide)⟩⟩
  · skip
    have nq : ∀ k : Int32, (¬ (k.toInt < 0 ∨ 16 < k.toInt)) → ¬ x = k := fun k h e => h (e ▸ q)
    refine ⟨hV, ⟨fun e => absurd e (nq _ (by decide)), fun e => absurd e (nq _ (by decide)), fun e => absurd e (nq _ (by decide)), fun e => absurd e (nq _ (by decide)), fun e => absurd e (nq _ (by decide)), fun e => absurd e (nq _ (by decide)), fun e => absurd e (nq _ (by decide)), fun e => absurd e (nq _ (by decide)), fun e => absurd e (nq _ (by decide)), fun e => absurd e (nq _ (by decide)), fun e => absurd e (nq _ (by decide)), fun e => absurd e (nq _ (by decide)), fun e => absurd e (nq _ (by decide)), fun e => absurd e (nq _ (by decide)), fun e => absurd e (nq _ (by decide)), fun e => absurd e (nq _ (by decide)), fun e => absurd e (nq _ (by decide)), fun _ => ?_⟩⟩
    exact eqk rfl (hKK _ _)
