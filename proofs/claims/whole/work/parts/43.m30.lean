/-! ===== the reference's reading; tell ===== -/
theorem sp_reads10 {L : Nat → Nat} {c : Nat} {f : Nat → Int32} {Q : Int32 → Int32 → Int32 → Int32 → Prop} (hc : c ≤ 60) (hL : Lt c L f) : ∀ d i b s t fa, i ≤ c → c ≤ i + d → b ≤ 24 → t ≤ 24 → Q (nI (rd L c d i b s t).1) (nI (rd L c d i b s t).2.1) (nI (rd L c d i b s t).2.2.1) (nI (rd L c d i b s t).2.2.2) → ∃ k, wp_X10_reads_h14 (nI c) f Q k (nI t) (nI i) fa (nI b) (nI s) := by
  have stop : ∀ i b s t fa, i ≤ c → c ≤ i → b ≤ 24 → t ≤ 24 → Q (nI (rdE c b s t).1) (nI (rdE c b s t).2.1) (nI (rdE c b s t).2.2.1) (nI (rdE c b s t).2.2.2) → ∃ k, wp_X10_reads_h14 (nI c) f Q k (nI t) (nI i) fa (nI b) (nI s) := by
    intro i b s t fa hi hci hb ht hQ
    refine ⟨1, ?_⟩
    unfold wp_X10_reads_h14 wp_X10_reads_j222 wp_X10_reads_j227
    refine br_t (nI_le (by omega) (by omega)) ?_
    unfold rdE at hQ
    refine b_lt (a := 0) (by omega) (by omega) (fun q => ?_) (fun q => ?_)
    · rw [if_pos (Or.inl (by omega))] at hQ
      exact hQ
    · refine b_ne (b := 0) (by omega) (by omega) (fun q2 => ?_) (fun q2 => ?_)
      · rw [if_neg (by omega)] at hQ
        exact hQ
      · rw [if_pos (Or.inr q2)] at hQ
        exact hQ
  intro d
  induction d with
  | zero => intro i b s t fa hi hci hb ht hQ; exact stop i b s t fa hi (by omega) hb ht hQ
  | succ d ih =>
    intro i b s t fa hi hci hb ht hQ
    by_cases hlt : c ≤ i
    · unfold rd at hQ
      rw [if_pos hlt] at hQ
      exact stop i b s t fa hi hlt hb ht hQ
    · obtain ⟨l1, l2⟩ := hL i (by omega)
      have hv : vp_in (nI i) 60 := vp_in_nI (by omega) (by omega)
      unfold rd at hQ
      rw [if_neg hlt] at hQ
      -- a head common to all roads
      have head : ∀ z, (∀ x12 : Int32, x12 = nI (L i) → (x12 = 120 → (wp_X10_reads_j46 (nI c) f (wp_X10_reads_h14 (nI c) f Q z) Q (nI t) (nI i) x12 (nI i) (nI b) (nI s))) ∧ (¬ x12 = 120 → ((¬ x12 = 46 → (wp_X10_isFigure (nI c) f (nI i) fun (r15 : Int32) => (r15 = 0 → (wp_X10_reads_j189 (nI c) f (wp_X10_reads_h14 (nI c) f Q z) Q (nI t) (nI i) x12 (nI i) (nI b) (nI s))) ∧ (¬ r15 = 0 → ((x12 = 48 → (wp_X10_reads_j189 (nI c) f (wp_X10_reads_h14 (nI c) f Q z) Q (nI t) (nI i) x12 (nI i) (nI b) (nI s))) ∧ (¬ x12 = 48 → ((¬ (nI t) = 0 → (wp_X10_reads_j189 (nI c) f (wp_X10_reads_h14 (nI c) f Q z) Q (nI t) (nI i) x12 (nI i) (nI b) (nI s))) ∧ ((nI t) = 0 → (∀ x19 : Int32, x19 = (x12 - 48) → wp_X10_isFigure (nI c) f ((nI i) + 1) fun (r20 : Int32) => (r20 = 0 → (wp_X10_reads_j197 (nI c) f (wp_X10_reads_h14 (nI c) f Q z) Q x19 (nI i) (nI i) (nI b) (nI s))) ∧ (¬ r20 = 0 → (vp_in ((nI i) + 1) 60 ∧ ∀ x22 : Int32, x22 = (((10 * x19) + (f (((nI i) + 1) : Int32).toNatClampNeg)) - 48) → (x22 ≤ 24 → (∀ x24 : Int32, x24 = (nI i) + 1 → wp_X10_isFigure (nI c) f (x24 + 1) fun (r25 : Int32) => (r25 = 0 → (wp_X10_reads_j197 (nI c) f (wp_X10_reads_h14 (nI c) f Q z) Q x22 x24 (nI i) (nI b) (nI s))) ∧ (¬ r25 = 0 → (Q 2 (nI i) (nI b) (nI s))))) ∧ (¬ x22 ≤ 24 → (Q 2 (nI i) (nI b) (nI s))))))))))))) ∧ (x12 = 46 → (wp_X10_reads_j46 (nI c) f (wp_X10_reads_h14 (nI c) f Q z) Q (nI t) (nI i) x12 (nI i) (nI b) (nI s)))))) → wp_X10_reads_h14 (nI c) f Q (z + 1) (nI t) (nI i) fa (nI b) (nI s) := by
        intro z hz
        unfold wp_X10_reads_h14
        refine br_f (nI_ge (by omega) (by omega)) ⟨hv, ?_⟩
        rw [J_cl (by omega), l2]
        exact hz
      have htm : tm t ≤ 24 := by unfold tm; split <;> omega
      have many : ∀ z x3, x3 = nI (L i) → (L i = 120 ∨ L i = 46) → (24 < b + tm t → Q 3 (nI i) (nI b) (nI s)) → (¬ 24 < b + tm t → wp_X10_reads_h14 (nI c) f Q z (nI 0) (nI (i + 1)) (nI i) (nI (b + tm t)) (nI (if L i = 120 then s ||| (2 ^ tm t - 1) * 2 ^ b else s))) → wp_X10_reads_j46 (nI c) f (wp_X10_reads_h14 (nI c) f Q z) Q (nI t) (nI i) x3 (nI i) (nI b) (nI s) := by
        rintro z x3 rfl hor h3 hz
        have body : wp_X10_reads_j55 (nI c) f (wp_X10_reads_h14 (nI c) f Q z) Q (nI i) (nI (L i)) (nI (tm t)) (nI i) (nI b) (nI s) := by
          unfold wp_X10_reads_j55 wp_X10_reads_j96 wp_X10_reads_j197
          rw [nI_add, nI_1]
          refine b_le (b := 24) (by omega) (by omega) (fun g => ?_) (fun g => h3 g)
          have hz' := hz (by omega)
          refine b_ne (b := 120) (by omega) (by omega) (fun q => ?_) (fun q => ?_)
          · rw [if_neg q] at hz'
            rw [show (0 : Int32) = nI 0 from rfl, fa_or, Nat.or_zero]
            rintro x2 rfl
            rintro x3 rfl
            rintro x1 rfl
            exact hz'
          · rw [if_pos q] at hz'
            refine sp_full10 (by omega) ?_
            have hl : (2 ^ tm t - 1) * 2 ^ b < 2 ^ 32 := by
              have h1 : (2 ^ tm t - 1) * 2 ^ b < 2 ^ tm t * 2 ^ b := Nat.mul_lt_mul_of_pos_right (by have := Nat.two_pow_pos (tm t); omega) (Nat.two_pow_pos b)
              rw [← Nat.pow_add] at h1
              have h2 : 2 ^ (tm t + b) ≤ 2 ^ 24 := Nat.pow_le_pow_right (by omega) (by omega)
              omega
            rw [J_shl (by omega) hl, fa_or]
            rintro x2 rfl
            rintro x3 rfl
            rintro x1 rfl
            exact hz'
        unfold wp_X10_reads_j46
        refine b_ne (b := 0) (by omega) (by omega) (fun q => ?_) (fun q => ?_)
        · have e : tm t = t := by unfold tm; rw [if_neg q]
          rw [e] at body
          exact body
        · have e : tm t = 1 := by unfold tm; rw [if_pos q]
          rw [e] at body
          exact body
      have bad : ∀ z x3, x3 = nI (L i) → L i ≠ 32 → Q 1 (nI i) (nI b) (nI s) → wp_X10_reads_j189 (nI c) f (wp_X10_reads_h14 (nI c) f Q z) Q (nI t) (nI i) x3 (nI i) (nI b) (nI s) := by
        rintro z x3 rfl h32 hq
        unfold wp_X10_reads_j189
        exact ⟨fun q => absurd ((nI_eq (b := 32) (by omega) (by omega)).mp q) h32, fun _ => hq⟩
      by_cases q120 : L i = 120
      · rw [if_pos q120] at hQ
        have hz : ∃ z, ¬ 24 < b + tm t → wp_X10_reads_h14 (nI c) f Q z (nI 0) (nI (i + 1)) (nI i) (nI (b + tm t)) (nI (s ||| (2 ^ tm t - 1) * 2 ^ b)) := by
          by_cases g : 24 < b + tm t
          · exact ⟨0, fun q => absurd g q⟩
          · rw [if_neg g] at hQ
            obtain ⟨z, hz⟩ := ih (i + 1) (b + tm t) (s ||| (2 ^ tm t - 1) * 2 ^ b) 0 (nI i) (by omega) (by omega) (by omega) (by omega) hQ
            exact ⟨z, fun _ => hz⟩
        obtain ⟨z, hz⟩ := hz
        refine ⟨z + 1, head z ?_⟩
        rintro x12 rfl
        refine br_t (show nI (L i) = (120 : Int32) by rw [q120]; rfl) (many z _ rfl (Or.inl q120) (fun g => ?_) (fun g => ?_))
        · rw [if_pos g] at hQ; exact hQ
        · rw [if_pos q120]; exact hz g
      · rw [if_neg q120] at hQ
        have n120 : ¬ nI (L i) = (120 : Int32) := fun q => q120 ((nI_eq (b := 120) (by omega) (by omega)).mp q)
        by_cases q46 : L i = 46
        · rw [if_pos q46] at hQ
          have hz : ∃ z, ¬ 24 < b + tm t → wp_X10_reads_h14 (nI c) f Q z (nI 0) (nI (i + 1)) (nI i) (nI (b + tm t)) (nI s) := by
            by_cases g : 24 < b + tm t
            · exact ⟨0, fun q => absurd g q⟩
            · rw [if_neg g] at hQ
              obtain ⟨z, hz⟩ := ih (i + 1) (b + tm t) s 0 (nI i) (by omega) (by omega) (by omega) (by omega) hQ
              exact ⟨z, fun _ => hz⟩
          obtain ⟨z, hz⟩ := hz
          refine ⟨z + 1, head z ?_⟩
          rintro x12 rfl
          refine br_f n120 ⟨fun q => absurd (show nI (L i) = (46 : Int32) by rw [q46]; rfl) q, fun _ => many z _ rfl (Or.inr q46) (fun g => ?_) (fun g => ?_)⟩
          · rw [if_pos g] at hQ; exact hQ
          · rw [if_neg q120]; exact hz g
        · rw [if_neg q46] at hQ
          have n46 : ¬ nI (L i) = (46 : Int32) := fun q => q46 ((nI_eq (b := 46) (by omega) (by omega)).mp q)
          by_cases qf : fg L c i = true
          · rw [if_pos qf] at hQ
            obtain ⟨f1, f2, f3⟩ := fg_iff.mp qf
            by_cases qz : t ≠ 0 ∨ L i = 48
            · rw [if_pos qz] at hQ
              refine ⟨1, head 0 ?_⟩
              rintro x12 rfl
              refine br_f n120 ⟨fun _ => ?_, fun q => absurd q n46⟩
              refine sp_fig hc hL (by omega) ?_
              rw [qf]
              refine ⟨fun q => absurd q (by decide), fun _ => ?_⟩
              refine ⟨fun _ => bad 0 _ rfl (by omega) hQ, fun q48 => ?_⟩
              refine ⟨fun _ => bad 0 _ rfl (by omega) hQ, fun q0 => ?_⟩
              exfalso
              rcases qz with g | g
              · exact g ((nI_eq (b := 0) (by omega) (by omega)).mp q0)
              · exact q48 (by rw [g]; rfl)
            · rw [if_neg qz] at hQ
              have t0 : t = 0 := by omega
              have n48 : ¬ nI (L i) = (48 : Int32) := fun q => qz (Or.inr ((nI_eq (b := 48) (by omega) (by omega)).mp q))
              have e48 : nI (L i) - 48 = nI (L i - 48) := by rw [show (48 : Int32) = nI 48 from rfl, pk_sub f2]
              -- the road to the figure behind
              have road : ∀ z, (wp_X10_isFigure (nI c) f ((nI i) + 1) fun (r20 : Int32) => (r20 = 0 → (wp_X10_reads_j197 (nI c) f (wp_X10_reads_h14 (nI c) f Q z) Q (nI (L i - 48)) (nI i) (nI i) (nI b) (nI s))) ∧ (¬ r20 = 0 → (vp_in ((nI i) + 1) 60 ∧ ∀ x22 : Int32, x22 = (((10 * (nI (L i - 48))) + (f (((nI i) + 1) : Int32).toNatClampNeg)) - 48) → (x22 ≤ 24 → (∀ x24 : Int32, x24 = (nI i) + 1 → wp_X10_isFigure (nI c) f (x24 + 1) fun (r25 : Int32) => (r25 = 0 → (wp_X10_reads_j197 (nI c) f (wp_X10_reads_h14 (nI c) f Q z) Q x22 x24 (nI i) (nI b) (nI s))) ∧ (¬ r25 = 0 → (Q 2 (nI i) (nI b) (nI s))))) ∧ (¬ x22 ≤ 24 → (Q 2 (nI i) (nI b) (nI s)))))) → ∃ k, wp_X10_reads_h14 (nI c) f Q k (nI t) (nI i) fa (nI b) (nI s) := by
                intro z hz
                refine ⟨z + 1, head z ?_⟩
                rintro x12 rfl
                refine br_f n120 ⟨fun _ => ?_, fun q => absurd q n46⟩
                refine sp_fig hc hL (by omega) ?_
                rw [qf]
                refine ⟨fun q => absurd q (by decide), fun _ => ⟨fun q => absurd q n48, fun _ => ⟨fun q => absurd (by rw [t0]; rfl) q, fun _ => ?_⟩⟩⟩
                rw [e48]
                rintro x19 rfl
                exact hz
              by_cases q1 : fg L c (i + 1) = true
              · rw [if_pos q1] at hQ
                obtain ⟨p1, p2, p3⟩ := fg_iff.mp q1
                obtain ⟨m1, m2⟩ := hL (i + 1) p1
                have ew : ((10 : Int32) * nI (L i - 48)) + f (i + 1) - 48 = nI (10 * (L i - 48) + L (i + 1) - 48) := by
                  rw [m2, show (10 : Int32) = nI 10 from rfl, show (48 : Int32) = nI 48 from rfl, pk_mul, nI_add, pk_sub (by omega)]
                have hz : ∃ z, ¬ (24 < 10 * (L i - 48) + L (i + 1) - 48 ∨ fg L c (i + 2) = true) → wp_X10_reads_h14 (nI c) f Q z (nI (10 * (L i - 48) + L (i + 1) - 48)) (nI (i + 2)) (nI i) (nI b) (nI s) := by
                  by_cases g : 24 < 10 * (L i - 48) + L (i + 1) - 48 ∨ fg L c (i + 2) = true
                  · exact ⟨0, fun q => absurd g q⟩
                  · rw [if_neg g] at hQ
                    have g2 : ¬ 24 < 10 * (L i - 48) + L (i + 1) - 48 := fun q => g (Or.inl q)
                    obtain ⟨z, hz⟩ := ih (i + 2) b s (10 * (L i - 48) + L (i + 1) - 48) (nI i) (by omega) (by omega) hb (by omega) hQ
                    exact ⟨z, fun _ => hz⟩
                obtain ⟨z, hz⟩ := hz
                refine road z ?_
                rw [nI_1]
                refine sp_fig hc hL (by omega) ?_
                rw [q1]
                refine ⟨fun q => absurd q (by decide), fun _ => ⟨vp_in_nI (by omega) (by omega), ?_⟩⟩
                rw [J_cl (by omega), ew]
                rintro x22 rfl
                refine b_le (b := 24) (by omega) (by omega) (fun g => ?_) (fun g => ?_)
                · rintro x24 rfl
                  rw [nI_1]
                  refine sp_fig hc hL (by omega) ?_
                  cases q2 : fg L c (i + 2)
                  · refine ⟨fun _ => ?_, fun q => absurd rfl q⟩
                    unfold wp_X10_reads_j197
                    rw [nI_1]
                    rintro x1 rfl
                    exact hz (fun q => by rw [q2] at q; rcases q with q | q; omega; exact absurd q (by decide))
                  · refine ⟨fun q => absurd q (by decide), fun _ => ?_⟩
                    rw [if_pos (Or.inr q2)] at hQ
                    exact hQ
                · rw [if_pos (Or.inl g)] at hQ
                  exact hQ
              · rw [if_neg q1] at hQ
                have q1' : fg L c (i + 1) = false := by rw [Bool.eq_false_iff]; exact q1
                obtain ⟨z, hz⟩ := ih (i + 1) b s (L i - 48) (nI i) (by omega) (by omega) hb (by omega) hQ
                refine road z ?_
                rw [nI_1]
                refine sp_fig hc hL (by omega) ?_
                rw [q1']
                refine ⟨fun _ => ?_, fun q => absurd rfl q⟩
                unfold wp_X10_reads_j197
                rw [nI_1]
                rintro x1 rfl
                exact hz
          · rw [if_neg qf] at hQ
            have hnf : fg L c i = false := by rw [Bool.eq_false_iff]; exact qf
            by_cases q32 : L i = 32
            · rw [if_pos q32] at hQ
              obtain ⟨z, hz⟩ := ih (i + 1) b s t (nI i) (by omega) (by omega) hb ht hQ
              refine ⟨z + 1, head z ?_⟩
              rintro x12 rfl
              refine br_f n120 ⟨fun _ => ?_, fun q => absurd q n46⟩
              refine sp_fig hc hL (by omega) ?_
              rw [hnf]
              refine ⟨fun _ => ?_, fun q => absurd rfl q⟩
              unfold wp_X10_reads_j189 wp_X10_reads_j197
              refine br_t (show nI (L i) = (32 : Int32) by rw [q32]; rfl) ?_
              rw [nI_1]
              rintro x1 rfl
              exact hz
            · rw [if_neg q32] at hQ
              refine ⟨1, head 0 ?_⟩
              rintro x12 rfl
              refine br_f n120 ⟨fun _ => ?_, fun q => absurd q n46⟩
              refine sp_fig hc hL (by omega) ?_
              rw [hnf]
              exact ⟨fun _ => bad 0 _ rfl q32 hQ, fun q => absurd rfl q⟩
theorem tx_lt {xc mc : Int32} {xl mt : Nat → Int32} (h : Tx xc xl mc mt) : ∃ (c : Nat) (L : Nat → Nat), c ≤ 60 ∧ xc = nI c ∧ mc = nI c ∧ Lt c L xl ∧ Lt c L mt := by
  obtain ⟨c, hc, e1, e2, hi⟩ := h
  have key : ∀ i, i < c → (xl i).toNatClampNeg ≤ 255 ∧ xl i = nI (xl i).toNatClampNeg ∧ mt i = nI (xl i).toNatClampNeg := by
    intro i h
    obtain ⟨v, h1, h2, h3⟩ := hi i h
    have e : (xl i).toNatClampNeg = v := by rw [h2]; exact J_cl (by omega)
    rw [e]
    exact ⟨h1, h2, h3⟩
  exact ⟨c, fun i => (xl i).toNatClampNeg, hc, e1, e2, fun i h => ⟨(key i h).1, (key i h).2.1⟩, fun i h => ⟨(key i h).1, (key i h).2.2⟩⟩
theorem cs_tell {B : Nat} {xb xr mb mr pn pc mu xf mf xc mc xtb xts xtt xtf xec mec mrb mrr : Int32} {fb fr gb gr xl mt xh xs mh ms : Nat → Int32} {K : Int32 → Int32 → Int32 → Int32 → Int32 → Int32 → Int32 → Int32 → Int32 → Int32 → (Nat → Int32) → (Nat → Int32) → Int32 → Int32 → Int32 → Int32 → Int32 → Int32 → Int32 → Int32 → Int32 → (Nat → Int32) → (Nat → Int32) → Prop} (hR : Rh xb xr mb mr) (hP : Ps (B + 1) pn pc fb fr mu gb gr) (hT : Tx xc xl mc mt) (hE : Er xec xh xs mec mh ms) (hK : ∀ a1 a2 a3 a4 a5 a6 a7 a8 a9 a10 a11 a12 a13 b1 b2 b3 b4 b5 b6 b7 b8 b9 b10, Rh a1 a2 b1 b2 → a3 = b6 → Tx a4 xl b5 mt → Ps B a9 a10 a11 a12 b3 b9 b10 → Er a13 xh xs b4 mh ms → K a1 a2 a3 a4 a5 a6 a7 a8 a9 a10 a11 a12 a13 b1 b2 b3 b4 b5 b6 b7 b8 b9 b10) : wp_X9_tell xb xr xf xc xtb xts xtt xtf xl pn pc fb fr xec fun r a1 a2 a3 a4 a5 a6 a7 a8 a9 a10 a11 a12 a13 => wp_X10_tell mb mr mu mec mc mf mrb mrr gb gr mt fun r2 b1 b2 b3 b4 b5 b6 b7 b8 b9 b10 => (r = r2 → K a1 a2 a3 a4 a5 a6 a7 a8 a9 a10 a11 a12 a13 b1 b2 b3 b4 b5 b6 b7 b8 b9 b10) ∧ (¬ r = r2 → False) := by
  have hR' := hR
  obtain ⟨n, s, h0, hn, hs, rfl, rfl, rfl, rfl⟩ := hR
  obtain ⟨c, L, hc, rfl, rfl, hx, hm⟩ := tx_lt hT
  have hok := rd_ok L c c 0 0 0 0 (by omega) (by decide)
  have hT0 : Tx 0 xl 0 mt := ⟨0, by omega, rfl, rfl, fun i hi => by omega⟩
  have hE0 : Er 0 xh xs 0 mh ms := ⟨0, by omega, rfl, rfl, fun i hi => by omega⟩
  unfold wp_X9_tell wp_X7_read wp_X7_clear wp_X1_clear
  refine sp_read9 hc hx c 0 0 0 0 xtf (by omega) (by omega) (by omega) (by omega) (fun u => ?_)
  have hM : ∀ Q : Int32 → Int32 → Int32 → Int32 → Prop, Q (nI (rd L c c 0 0 0 0).1) (nI (rd L c c 0 0 0 0).2.1) (nI (rd L c c 0 0 0 0).2.2.1) (nI (rd L c c 0 0 0 0).2.2.2) → ∃ k, wp_X10_reads_h14 (nI c) mt Q k (nI 0) (nI 0) mf (nI 0) (nI 0) := fun Q h => sp_reads10 hc hm c 0 0 0 0 mf (by omega) (by omega) (by omega) (by omega) h
  obtain ⟨k3, hok0⟩ := hok
  refine b_eq (b := 0) (by omega) (by omega) (fun q => ?_) (fun q => ?_)
  · obtain ⟨g1, g2, g3⟩ := hok0 q
    refine sp_change hP ?_
    unfold wp_X10_tell wp_X10_reads
    refine hM _ ?_
    refine br_t (nI_le (b := 0) (by omega) (by omega)) ?_
    refine sp_save h0 hn hs hP (fun v1 v2 v3 hP2 => ?_)
    exact eqk rfl (hK _ _ _ _ _ _ _ _ _ _ _ _ _ _ _ _ _ _ _ _ _ _ _ (Rh.mk' g1 g2 g3) rfl hT0 hP2 hE0)
  · unfold wp_X10_tell wp_X10_reads
    refine hM _ ?_
    refine br_f (nI_ge (a := 0) (by omega) (by omega)) ?_
    exact eqk rfl (hK _ _ _ _ _ _ _ _ _ _ _ _ _ _ _ _ _ _ _ _ _ _ _ hR' rfl hT0 hP.dn hE)
