/-! ===== reading, both sides; tell ===== -/
theorem sp_sign {b s t v : Nat} {Q : Int32 → Int32 → Int32 → Int32 → Prop} (hb : b ≤ 24) (ht : t ≤ 24) (hv : v ≤ 255) (h : if v = 120 then (if 24 < b + tm t then Q 3 (nI b) (nI s) (nI t) else Q 0 (nI (b + tm t)) (nI (s ||| (2 ^ tm t - 1) * 2 ^ b)) 0) else if v = 46 then (if 24 < b + tm t then Q 3 (nI b) (nI s) (nI t) else Q 0 (nI (b + tm t)) (nI s) 0) else if v = 32 then Q 0 (nI b) (nI s) (nI t) else Q 1 (nI b) (nI s) (nI t)) : wp_X7_readSign (nI b) (nI s) (nI t) (nI v) Q := by
  have htm : tm t ≤ 24 := by unfold tm; split <;> omega
  have ex : (if (1 : Int32) < nI t then nI t else 1) = nI (tm t) := by
    unfold tm
    by_cases q : 1 < t
    · have q2 : (1 : Int32) < nI t := nI_lt (a := 1) q (by omega)
      rw [if_pos q2, if_neg (by omega)]
    · have q2 : ¬ (1 : Int32) < nI t := nI_nlt (a := 1) (b := t) (by omega) (by omega)
      rw [if_neg q2]
      by_cases q0 : t = 0
      · rw [if_pos q0]; rfl
      · rw [if_neg q0, show t = 1 by omega]; rfl
  unfold wp_X7_readSign wp_X7_readSign_j22 wp_X7_readSign_j68
  rw [ex]
  refine b_ne (b := 32) (by omega) (by omega) (fun q => ?_) (fun q => ?_)
  · refine b_eq (b := 120) (by omega) (by omega) (fun q1 => ?_) (fun q1 => ?_)
    · rw [if_pos q1] at h
      rintro x2 rfl
      rw [nI_add]
      refine b_le (b := 24) (by omega) (by omega) (fun g => ?_) (fun g => ?_)
      · rw [if_neg (by omega)] at h
        refine b_ne (b := 120) (by omega) (by omega) (fun g1 => absurd q1 g1) (fun _ => ?_)
        refine sp_full (by omega) ?_
        have hlt : (2 ^ tm t - 1) * 2 ^ b < 2 ^ 32 := by
          have h1 : (2 ^ tm t - 1) * 2 ^ b < 2 ^ tm t * 2 ^ b := Nat.mul_lt_mul_of_pos_right (by have := Nat.two_pow_pos (tm t); omega) (Nat.two_pow_pos b)
          rw [← Nat.pow_add] at h1
          have h2 : 2 ^ (tm t + b) ≤ 2 ^ 24 := Nat.pow_le_pow_right (by omega) (by omega)
          omega
        rw [J_shl (by omega) hlt, fa_or]
        rintro x6 rfl
        rintro x1 rfl
        exact h
      · rw [if_pos g] at h
        exact h
    · rw [if_neg q1] at h
      refine b_eq (b := 46) (by omega) (by omega) (fun q2 => ?_) (fun q2 => ?_)
      · rw [if_pos q2] at h
        rintro x2 rfl
        rw [nI_add]
        refine b_le (b := 24) (by omega) (by omega) (fun g => ?_) (fun g => ?_)
        · rw [if_neg (by omega)] at h
          refine b_ne (b := 120) (by omega) (by omega) (fun _ => ?_) (fun g1 => absurd g1 q1)
          rintro x1 rfl
          exact h
        · rw [if_pos g] at h
          exact h
      · rw [if_neg q2, if_neg q] at h
        exact h
  · rw [if_neg (by omega), if_neg (by omega), if_pos q] at h
    exact h
theorem sp_read9 {L : Nat → Nat} {c : Nat} {f : Nat → Int32} {Q : Int32 → Int32 → Int32 → Int32 → Int32 → Prop} (hc : c ≤ 60) (hL : Lt c L f) : ∀ d i b s t fa, i ≤ c → c ≤ i + d → b ≤ 24 → t ≤ 24 → (∀ u, Q (nI (rd L c d i b s t).1) (nI (rd L c d i b s t).2.2.1) (nI (rd L c d i b s t).2.2.2) u (nI (rd L c d i b s t).2.1)) → ∃ k, wp_X7_read_h19 (nI c) f Q k (nI i) (nI b) (nI s) (nI t) fa := by
  have stop : ∀ i b s t fa, i ≤ c → c ≤ i → b ≤ 24 → t ≤ 24 → (∀ u, Q (nI (rdE c b s t).1) (nI (rdE c b s t).2.2.1) (nI (rdE c b s t).2.2.2) u (nI (rdE c b s t).2.1)) → ∃ k, wp_X7_read_h19 (nI c) f Q k (nI i) (nI b) (nI s) (nI t) fa := by
    intro i b s t fa hi hci hb ht hQ
    refine ⟨1, ?_⟩
    unfold wp_X7_read_h19 wp_X7_read_j105 wp_X7_read_j110
    refine br_t (nI_le (by omega) (by omega)) ?_
    unfold rdE at hQ
    refine b_ne (b := 0) (by omega) (by omega) (fun q => ?_) (fun q => ?_)
    · rw [if_pos (Or.inl q)] at hQ
      exact hQ _
    · refine b_ne (b := 0) (by omega) (by omega) (fun q2 => ?_) (fun q2 => ?_)
      · rw [if_neg (by omega)] at hQ
        exact hQ _
      · rw [if_pos (Or.inr q2)] at hQ
        exact hQ _
  intro d
  induction d with
  | zero => intro i b s t fa hi hci hb ht hQ; exact stop i b s t fa hi (by omega) hb ht hQ
  | succ d ih =>
    intro i b s t fa hi hci hb ht hQ
    by_cases hlt : c ≤ i
    · unfold rd at hQ
      rw [if_pos hlt] at hQ
      exact stop i b s t fa hi hlt hb ht hQ
    · obtain ⟨l1, l2⟩ := hL i (by omega)
      unfold rd at hQ
      rw [if_neg hlt] at hQ
      -- the loop goes on with what was read
      have hgo : ∃ z, ∀ (fa' : Int32), (fg L c i = false → if L i = 120 then (24 < b + tm t ∨ wp_X7_read_h19 (nI c) f Q z (nI (i + 1)) (nI (b + tm t)) (nI (s ||| (2 ^ tm t - 1) * 2 ^ b)) 0 (nI i)) else if L i = 46 then (24 < b + tm t ∨ wp_X7_read_h19 (nI c) f Q z (nI (i + 1)) (nI (b + tm t)) (nI s) 0 (nI i)) else if L i = 32 then wp_X7_read_h19 (nI c) f Q z (nI (i + 1)) (nI b) (nI s) (nI t) (nI i) else True) ∧ (fg L c i = true → (t ≠ 0 ∨ L i = 48) ∨ (if fg L c (i + 1) = true then (24 < 10 * (L i - 48) + L (i + 1) - 48 ∨ fg L c (i + 2) = true) ∨ wp_X7_read_h19 (nI c) f Q z (nI (i + 2)) (nI b) (nI s) (nI (10 * (L i - 48) + L (i + 1) - 48)) (nI i) else wp_X7_read_h19 (nI c) f Q z (nI (i + 1)) (nI b) (nI s) (nI (L i - 48)) (nI i))) := by
        by_cases q120 : L i = 120
        · have hnf : fg L c i = false := by rw [Bool.eq_false_iff]; intro q; have := (fg_iff.mp q).2; omega
          rw [if_pos q120] at hQ
          by_cases g : 24 < b + tm t
          · exact ⟨0, fun _ => ⟨fun _ => by rw [if_pos q120]; exact Or.inl g, fun q => by rw [hnf] at q; exact absurd q (by decide)⟩⟩
          · rw [if_neg g] at hQ
            obtain ⟨z, hz⟩ := ih (i + 1) (b + tm t) (s ||| (2 ^ tm t - 1) * 2 ^ b) 0 (nI i) (by omega) (by omega) (by omega) (by omega) hQ
            exact ⟨z, fun _ => ⟨fun _ => by rw [if_pos q120]; exact Or.inr hz, fun q => by rw [hnf] at q; exact absurd q (by decide)⟩⟩
        · rw [if_neg q120] at hQ
          by_cases q46 : L i = 46
          · have hnf : fg L c i = false := by rw [Bool.eq_false_iff]; intro q; have := (fg_iff.mp q).2; omega
            rw [if_pos q46] at hQ
            by_cases g : 24 < b + tm t
            · exact ⟨0, fun _ => ⟨fun _ => by rw [if_neg q120, if_pos q46]; exact Or.inl g, fun q => by rw [hnf] at q; exact absurd q (by decide)⟩⟩
            · rw [if_neg g] at hQ
              obtain ⟨z, hz⟩ := ih (i + 1) (b + tm t) s 0 (nI i) (by omega) (by omega) (by omega) (by omega) hQ
              exact ⟨z, fun _ => ⟨fun _ => by rw [if_neg q120, if_pos q46]; exact Or.inr hz, fun q => by rw [hnf] at q; exact absurd q (by decide)⟩⟩
          · rw [if_neg q46] at hQ
            by_cases qf : fg L c i = true
            · rw [if_pos qf] at hQ
              obtain ⟨f1, f2, f3⟩ := fg_iff.mp qf
              by_cases qz : t ≠ 0 ∨ L i = 48
              · exact ⟨0, fun _ => ⟨fun q => by rw [qf] at q; exact absurd q (by decide), fun _ => Or.inl qz⟩⟩
              · rw [if_neg qz] at hQ
                by_cases q1 : fg L c (i + 1) = true
                · rw [if_pos q1] at hQ
                  obtain ⟨p1, p2, p3⟩ := fg_iff.mp q1
                  by_cases q2 : 24 < 10 * (L i - 48) + L (i + 1) - 48 ∨ fg L c (i + 2) = true
                  · exact ⟨0, fun _ => ⟨fun q => by rw [qf] at q; exact absurd q (by decide), fun _ => Or.inr (by rw [if_pos q1]; exact Or.inl q2)⟩⟩
                  · rw [if_neg q2] at hQ
                    have q3 : ¬ 24 < 10 * (L i - 48) + L (i + 1) - 48 := fun q => q2 (Or.inl q)
                    obtain ⟨z, hz⟩ := ih (i + 2) b s (10 * (L i - 48) + L (i + 1) - 48) (nI i) (by omega) (by omega) hb (by omega) hQ
                    exact ⟨z, fun _ => ⟨fun q => by rw [qf] at q; exact absurd q (by decide), fun _ => Or.inr (by rw [if_pos q1]; exact Or.inr hz)⟩⟩
                · rw [if_neg q1] at hQ
                  obtain ⟨z, hz⟩ := ih (i + 1) b s (L i - 48) (nI i) (by omega) (by omega) hb (by omega) hQ
                  exact ⟨z, fun _ => ⟨fun q => by rw [qf] at q; exact absurd q (by decide), fun _ => Or.inr (by rw [if_neg q1]; exact hz)⟩⟩
            · rw [if_neg qf] at hQ
              have hnf : fg L c i = false := by rw [Bool.eq_false_iff]; exact qf
              by_cases q32 : L i = 32
              · rw [if_pos q32] at hQ
                obtain ⟨z, hz⟩ := ih (i + 1) b s t (nI i) (by omega) (by omega) hb ht hQ
                exact ⟨z, fun _ => ⟨fun _ => by rw [if_neg q120, if_neg q46, if_pos q32]; exact hz, fun q => absurd q qf⟩⟩
              · exact ⟨0, fun _ => ⟨fun _ => by rw [if_neg q120, if_neg q46, if_neg q32]; trivial, fun q => absurd q qf⟩⟩
      obtain ⟨z, hz⟩ := hgo
      obtain ⟨hzN, hzF⟩ := hz 0
      refine ⟨z + 1, ?_⟩
      unfold wp_X7_read_h19
      refine br_f (nI_ge (by omega) (by omega)) ?_
      refine sp_figures hc hL (by omega) (fun k hk hkf hke => ?_)
      unfold wp_X7_read_j66
      by_cases k0 : k = 0
      · subst k0
        have hnf : fg L c i = false := hke
        rw [show (if (1 : Int32) < nI 0 then nI 0 else 1) = 1 from by decide]
        rintro x7 rfl
        refine br_t (show nI 0 ≤ (0 : Int32) by decide) (sp_letter hc hL (by omega) ?_)
        have hzN' := hzN hnf
        have hnff : ¬ fg L c i = true := by rw [hnf]; decide
        refine sp_sign hb ht l1 ?_
        rw [nI_1]
        by_cases q120 : L i = 120
        · rw [if_pos q120] at hQ hzN' ⊢
          by_cases g : 24 < b + tm t
          · rw [if_pos g] at hQ ⊢
            exact ⟨fun q => absurd q (by decide), fun _ => hQ _⟩
          · rw [if_neg g]
            refine ⟨fun _ => ?_, fun q => absurd rfl q⟩
            rintro x2 rfl
            exact hzN'.resolve_left g
        · rw [if_neg q120] at hQ hzN' ⊢
          by_cases q46 : L i = 46
          · rw [if_pos q46] at hQ hzN' ⊢
            by_cases g : 24 < b + tm t
            · rw [if_pos g] at hQ ⊢
              exact ⟨fun q => absurd q (by decide), fun _ => hQ _⟩
            · rw [if_neg g]
              refine ⟨fun _ => ?_, fun q => absurd rfl q⟩
              rintro x2 rfl
              exact hzN'.resolve_left g
          · rw [if_neg q46] at hQ hzN' ⊢
            rw [if_neg hnff] at hQ
            by_cases q32 : L i = 32
            · rw [if_pos q32] at hzN' ⊢
              refine ⟨fun _ => ?_, fun q => absurd rfl q⟩
              rintro x2 rfl
              exact hzN'
            · rw [if_neg q32] at hQ ⊢
              exact ⟨fun q => absurd q (by decide), fun _ => hQ _⟩
      · have qf : fg L c i = true := hkf 0 (by omega)
        obtain ⟨f1, f2, f3⟩ := fg_iff.mp qf
        have hzF' := hzF qf
        rw [if_neg (show ¬ L i = 120 by omega), if_neg (show ¬ L i = 46 by omega), if_pos qf] at hQ
        have ex : (if (1 : Int32) < nI k then nI k else 1) = nI k := by
          by_cases q : 1 < k
          · have q2 : (1 : Int32) < nI k := nI_lt (a := 1) q (by omega)
            rw [if_pos q2]
          · rw [show k = 1 by omega]; decide
        rw [ex]
        rintro x7 rfl
        refine br_f (nI_ge (a := 0) (by omega) (by omega)) ?_
        unfold wp_X7_readNumber wp_X7_readNumber_j17 wp_X7_readNumber_j56
        rw [nI_add]
        refine b_ne (b := 0) (by omega) (by omega) (fun q => ?_) (fun q => sp_letter hc hL f1 ?_)
        · rw [if_pos (Or.inl q)] at hQ
          exact ⟨fun q => absurd q (by decide), fun _ => hQ _⟩
        · refine b_ne (b := 48) (by omega) (by omega) (fun q48 => ?_) (fun q48 => ?_)
          · have qz : ¬ (t ≠ 0 ∨ L i = 48) := by omega
            rw [if_neg qz] at hQ
            have hzF2 := hzF'.resolve_left qz
            refine b_le (b := 2) (by omega) (by omega) (fun k2 => sp_letter hc hL f1 ?_) (fun k2 => ?_)
            · rw [show (48 : Int32) = nI 48 from rfl, pk_sub f2]
              rintro x5 rfl
              refine b_ne (b := 2) (by omega) (by omega) (fun k3 => ?_) (fun k3 => ?_)
              · have k1 : k = 1 := by omega
                subst k1
                have q1 : ¬ fg L c (i + 1) = true := by rw [hke]; decide
                rw [if_neg q1] at hzF2
                refine br_t (nI_le (b := 24) (by omega) (by omega)) ⟨fun _ => ?_, fun q => absurd rfl q⟩
                rintro x2 rfl
                exact hzF2
              · subst k3
                have q1 : fg L c (i + 1) = true := hkf 1 (by omega)
                have q2 : ¬ fg L c (i + 2) = true := by rw [hke]; decide
                obtain ⟨p1, p2, p3⟩ := fg_iff.mp q1
                rw [if_pos q1] at hzF2 hQ
                obtain ⟨m1, m2⟩ := hL (i + 1) p1
                rw [nI_1]
                refine sp_letter hc hL p1 ?_
                rw [show (10 : Int32) = nI 10 from rfl, pk_mul, nI_add, pk_sub (by omega)]
                rintro x7 rfl
                refine b_le (b := 24) (by omega) (by omega) (fun g => ⟨fun _ => ?_, fun q => absurd rfl q⟩) (fun g => ⟨fun q => absurd q (by decide), fun _ => ?_⟩)
                · rintro x2 rfl
                  exact hzF2.resolve_left (fun q => q.elim (fun q => by omega) q2)
                · rw [if_pos (Or.inl g)] at hQ
                  exact hQ _
            · have q1 : fg L c (i + 1) = true := hkf 1 (by omega)
              have q2 : fg L c (i + 2) = true := hkf 2 (by omega)
              rw [if_pos q1, if_pos (Or.inr q2)] at hQ
              exact ⟨fun q => absurd q (by decide), fun _ => hQ _⟩
          · rw [if_pos (Or.inr q48)] at hQ
            exact ⟨fun q => absurd q (by decide), fun _ => hQ _⟩
