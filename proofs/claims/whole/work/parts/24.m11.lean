/-! ===== rows in order ===== -/
def Pm (m : Nat) (f g : Nat → Int32) : Prop := ∀ P : Int32 → Bool, fb_ct (fun i => P (g i)) m = fb_ct (fun i => P (f i)) m
theorem Pm.rf {m : Nat} {f : Nat → Int32} : Pm m f f := fun _ => rfl
theorem Pm.tr {m : Nat} {f g h : Nat → Int32} (a : Pm m f g) (b : Pm m g h) : Pm m f h := fun P => (b P).trans (a P)
theorem pm_upd {m a : Nat} (f : Nat → Int32) (x : Int32) (P : Int32 → Bool) (ha : a < m) : fb_ct (fun i => P (upd f a x i)) m + (if P (f a) then 1 else 0) = fb_ct (fun i => P (f i)) m + (if P x then 1 else 0) := by
  have h := fb_ct_upd (fun i => P (f i)) (P x) ha
  have e : (fun i => P (upd f a x i)) = fun k => if k = a then P x else P (f k) := by
    funext k
    unfold upd
    by_cases hk : k = a
    · rw [if_pos hk, if_pos hk]
    · rw [if_neg hk, if_neg hk]
  rw [e]
  exact h
theorem pm_swap {m a b : Nat} {f : Nat → Int32} (ha : a < m) (hb : b < m) (hab : a ≠ b) : Pm m f (upd (upd f a (f b)) b (f a)) := by
  intro P
  have h1 := pm_upd f (f b) P ha
  have h2 := pm_upd (upd f a (f b)) (f a) P hb
  have e : upd f a (f b) b = f b := by unfold upd; rw [if_neg (fun q => hab q.symm)]
  rw [e] at h2
  omega
theorem pm_ext {k m : Nat} {f g : Nat → Int32} (hk : k ≤ m) (h : Pm k f g) (h2 : ∀ j, k ≤ j → g j = f j) : Pm m f g := by
  intro P
  have a1 := fb_ct_split (fun i => P (f i)) k (m - k)
  have a2 := fb_ct_split (fun i => P (g i)) k (m - k)
  rw [show k + (m - k) = m by omega] at a1 a2
  rw [a1, a2, h P, fb_ct_cong (p := fun j => P (g (k + j))) (q := fun j => P (f (k + j))) (fun j _ => by rw [h2 (k + j) (by omega)])]
theorem pm_all {m : Nat} {f g : Nat → Int32} (h : Pm m f g) (P : Int32 → Bool) (hf : ∀ i, i < m → P (f i) = true) : ∀ i, i < m → P (g i) = true := by
  have h1 := h P
  rw [fb_ct_all.mpr hf] at h1
  exact fb_ct_all.mp h1
def Srt (a m : Nat) (f : Nat → Int32) : Prop := ∀ i j, a ≤ i → i ≤ j → j < m → (f i).toInt ≤ (f j).toInt
theorem srt_unique {m : Nat} {f g : Nat → Int32} (hf : Srt 0 m f) (hg : Srt 0 m g) (h : Pm m f g) : ∀ i, i < m → g i = f i := by
  have key : ∀ (u v : Nat → Int32), Srt 0 m u → Srt 0 m v → Pm m u v → ∀ i, i < m → ¬ (u i).toInt < (v i).toInt := by
    intro u v hu hv hp i hi hlt
    have h1 := hp (fun x => decide (x.toInt ≤ (u i).toInt))
    have a1 : i + 1 ≤ fb_ct (fun j => decide ((u j).toInt ≤ (u i).toInt)) m := by
      have b1 : fb_ct (fun j => decide ((u j).toInt ≤ (u i).toInt)) (i + 1) = i + 1 := fb_ct_all.mpr (fun k hk => decide_eq_true (hu k i (by omega) (by omega) hi))
      have b2 := fb_ct_mono (fun j => decide ((u j).toInt ≤ (u i).toInt)) (show i + 1 ≤ m from hi)
      omega
    have a2 : fb_ct (fun j => decide ((v j).toInt ≤ (u i).toInt)) m ≤ i := by
      have b1 := fb_ct_split (fun j => decide ((v j).toInt ≤ (u i).toInt)) i (m - i)
      rw [show i + (m - i) = m by omega] at b1
      have b2 : fb_ct (fun k => decide ((v (i + k)).toInt ≤ (u i).toInt)) (m - i) = 0 := fb_ct_zero.mpr (fun k hk => decide_eq_false (by
        have := hv i (i + k) (by omega) (by omega) (by omega)
        omega))
      have b3 := fb_ct_le (fun j => decide ((v j).toInt ≤ (u i).toInt)) i
      omega
    omega
  intro i hi
  refine Int32.toInt_inj.mp ?_
  have h1 := key f g hf hg h i hi
  have h2 := key g f hg hf (fun P => (h P).symm) i hi
  omega
/-! ===== the class's way ===== -/
theorem sp_shell {cap m : Nat} {f0 : Nat → Int32} {Q : (Nat → Int32) → Prop} (hm : m ≤ cap) (hcap : cap ≤ 8192) (h : ∀ g, Pm m f0 g → Srt 0 m g → (∀ j, m ≤ j → g j = f0 j) → Q g) : wp_X8_sort cap (nI m) f0 Q := by
  -- one element goes to its place
  have insert : ∀ (st i : Nat) (x : Int32) (g0 : Nat → Int32) (L7 : Int32 → (Nat → Int32) → Prop) (L13 : Int32 → Int32 → (Nat → Int32) → Prop), 0 < st → st ≤ i → i < m →
      (∀ g, Pm m g0 g → (∀ j, m ≤ j → g j = g0 j) → (st = 1 → Srt 0 i g0 → Srt 0 (i + 1) g) → L13 (nI st) (nI (i + 1)) g) →
      x = g0 i → ∀ (to : Nat), to ≤ i → ∀ (g : Nat → Int32), Pm m g0 (upd g to x) → (∀ j, m ≤ j → g j = g0 j) →
      (st = 1 → Srt 0 i g0 → (∀ a b, a ≤ b → b ≤ i → a ≠ to → b ≠ to → (g a).toInt ≤ (g b).toInt) ∧ (∀ b, to < b → b ≤ i → x.toInt ≤ (g b).toInt)) →
      ∃ z, wp_X8_sort_h40 cap (nI m) L7 L13 Q z (nI st) (nI i) x (nI to) g := by
    intro st i x g0 L7 L13 hst hsti hi hL hx to
    induction to using Nat.strongRecOn with
    | _ to ih =>
      intro hto g hpm hout hinv
      -- the end of the way
      have stop : (st = 1 → to = 0 ∨ (g (to - 1)).toInt ≤ x.toInt) → wp_X8_sort_j84 cap (nI m) L7 L13 Q (nI st) (nI i) x (nI to) g := by
        intro hend
        unfold wp_X8_sort_j84
        refine ⟨vp_in_nI (by omega) (by omega), ?_⟩
        intro g1 e1 x2 e2
        rw [J_cl (by omega)] at e1
        rw [nI_1] at e2
        rw [e1, e2]
        refine hL _ hpm (fun j hj => by unfold upd; rw [if_neg (by omega)]; exact hout j hj) ?_
        intro h1 hs
        obtain ⟨v1, v2⟩ := hinv h1 hs
        intro a b _ hab hb
        unfold upd
        by_cases ea : a = to
        · rw [if_pos ea]
          by_cases eb : b = to
          · rw [if_pos eb]; exact Int.le_refl _
          · rw [if_neg eb]; exact v2 b (by omega) (by omega)
        · rw [if_neg ea]
          by_cases eb : b = to
          · rw [if_pos eb]
            rcases hend h1 with q | q
            · omega
            · have := v1 a (to - 1) (by omega) (by omega) ea (by omega)
              omega
          · rw [if_neg eb]; exact v1 a b hab (by omega) ea eb
      by_cases hc : to < st
      · refine ⟨1, ?_⟩
        unfold wp_X8_sort_h40
        exact br_t (nI_lt hc (by omega)) (stop (fun h1 => Or.inl (by omega)))
      · by_cases hle : (g (to - st)).toInt ≤ x.toInt
        · refine ⟨1, ?_⟩
          unfold wp_X8_sort_h40
          refine br_f (nI_nlt (by omega) (by omega)) ?_
          rw [pk_sub (by omega), J_cl (by omega)]
          refine ⟨vp_in_nI (by omega) (by omega), fun _ => stop (fun h1 => Or.inr (by rw [h1] at hle; exact hle)), fun q => absurd ((fa_le _ _).mpr hle) q⟩
        · have hg2 : Pm m g0 (upd (upd g to (g (to - st))) (to - st) x) := by
            have hs := pm_swap (m := m) (a := to) (b := to - st) (f := upd g to x) (by omega) (by omega) (by omega)
            have e1 : upd g to x (to - st) = g (to - st) := by unfold upd; rw [if_neg (by omega)]
            have e2 : upd g to x to = x := by unfold upd; rw [if_pos rfl]
            have e3 : upd (upd g to x) to (g (to - st)) = upd g to (g (to - st)) := fa_upd_twice _ _ _ _
            rw [e1, e2, e3] at hs
            exact hpm.tr hs
          obtain ⟨z, hz⟩ := ih (to - st) (by omega) (by omega) (upd g to (g (to - st))) hg2 (fun j hj => by unfold upd; rw [if_neg (by omega)]; exact hout j hj) (by
            intro h1 hs
            subst h1
            obtain ⟨v1, v2⟩ := hinv rfl hs
            constructor
            · intro a b hab hb ha1 hb1
              unfold upd
              by_cases ea : a = to
              · rw [if_pos ea]
                by_cases eb : b = to
                · rw [if_pos eb]; exact Int.le_refl _
                · rw [if_neg eb]; exact v1 (to - 1) b (by omega) hb (by omega) eb
              · rw [if_neg ea]
                by_cases eb : b = to
                · rw [if_pos eb]; exact v1 a (to - 1) (by omega) (by omega) ea (by omega)
                · rw [if_neg eb]; exact v1 a b hab hb ea eb
            · intro b hb1 hb2
              unfold upd
              by_cases eb : b = to
              · rw [if_pos eb]; omega
              · rw [if_neg eb]; exact v2 b (by omega) hb2)
          refine ⟨z + 1, ?_⟩
          unfold wp_X8_sort_h40
          refine br_f (nI_nlt (by omega) (by omega)) ?_
          rw [pk_sub (by omega), J_cl (by omega)]
          refine ⟨vp_in_nI (by omega) (by omega), fun q => absurd ((fa_le _ _).mp q) hle, fun _ => ⟨vp_in_nI (by omega) (by omega), ?_⟩⟩
          intro x5 e5
          refine ⟨vp_in_nI (by omega) (by omega), ?_⟩
          intro g6 e6 x7 e7
          rw [J_cl (by omega)] at e6
          rw [e6, e5, e7]
          exact hz
  -- a pass
  have pass : ∀ (st : Nat) (L7 : Int32 → (Nat → Int32) → Prop) (s2 : Nat), 0 < st → st ≤ m → (s2 = if st = 2 then 1 else st * 5 / 11) → ∀ (g0 : Nat → Int32), 
      (∀ g, Pm m g0 g → (∀ j, m ≤ j → g j = g0 j) → (st = 1 → Srt 0 m g) → L7 (nI s2) g) →
      ∀ d i, i + d = m → st ≤ i → ∀ g, Pm m g0 g → (∀ j, m ≤ j → g j = g0 j) → (st = 1 → Srt 0 i g) → wp_X8_sort_h13 cap (nI m) L7 Q (d + 1) (nI st) (nI i) g := by
    intro st L7 s2 hst hstm hs2 g0 hL d
    induction d with
    | zero =>
      intro i hi hsi g hp ho hs
      rw [Nat.add_zero] at hi
      subst hi
      unfold wp_X8_sort_h13 wp_X8_sort_j98 wp_X8_sort_j113
      refine br_t (nI_le (Nat.le_refl _) (by omega)) ?_
      refine b_ne (b := 2) (by omega) (by omega) (fun q => ⟨by decide, ?_⟩) (fun q => ?_)
      · rw [if_neg q] at hs2
        rw [show (5 : Int32) = nI 5 from rfl, show (11 : Int32) = nI 11 from rfl, pk_mul, pk_div (by omega) (by decide) (by decide), ← hs2]
        exact hL g hp ho hs
      · rw [if_pos q] at hs2
        have := hL g hp ho hs
        rw [hs2] at this
        exact this
    | succ d ih =>
      intro i hi hsi g hp ho hs
      unfold wp_X8_sort_h13
      refine br_f (nI_ge (by omega) (by omega)) (br_f (nI_ge (a := i) (b := cap) (by omega) (by omega)) ⟨vp_in_nI (by omega) (by omega), ?_⟩)
      intro x10 e10
      rw [J_cl (by omega)] at e10
      refine insert st i x10 g L7 _ hst hsi (by omega) ?_ e10 i (Nat.le_refl i) g ?_ (fun j _ => rfl) ?_
      · intro g2 p2 o2 s2'
        exact ih (i + 1) (by omega) (by omega) g2 (hp.tr p2) (fun j hj => by rw [o2 j hj, ho j hj]) (fun h1 => s2' h1 (hs h1))
      · have e : upd g i x10 = g := fa_upd_same e10.symm
        rw [e]
        exact Pm.rf
      · intro h1 hso
        refine ⟨fun a b hab hb ha1 hb1 => hso a b (by omega) hab (by omega), fun b hb1 hb2 => by omega⟩
  have all : ∀ st, st ≤ m → ∃ z, ∀ g, Pm m f0 g → (∀ j, m ≤ j → g j = f0 j) → (st = 0 → Srt 0 m g) → wp_X8_sort_h7 cap (nI m) Q z (nI st) g := by
    intro st
    induction st using Nat.strongRecOn with
    | _ st ih =>
      intro hstm
      by_cases hs0 : st = 0
      · subst hs0
        refine ⟨1, fun g hp ho hs => ?_⟩
        unfold wp_X8_sort_h7
        exact br_t (by decide) (h g hp (hs rfl) ho)
      · obtain ⟨s2, hs2⟩ : ∃ s2, s2 = if st = 2 then 1 else st * 5 / 11 := ⟨_, rfl⟩
        have hlt : s2 < st ∧ (s2 = 0 → st = 1) := by
          rw [hs2]
          by_cases q : st = 2
          · rw [if_pos q]; omega
          · rw [if_neg q]; omega
        obtain ⟨z, hz⟩ := ih s2 hlt.1 (by omega)
        refine ⟨z + 1, fun g hp ho hs => ?_⟩
        unfold wp_X8_sort_h7
        refine br_f (nI_nle (by omega) (by omega)) ⟨_, pass st (wp_X8_sort_h7 cap (nI m) Q z) s2 (by omega) hstm hs2 g ?_ (m - st) st (by omega) (Nat.le_refl st) g Pm.rf (fun j _ => rfl) ?_⟩
        · intro g2 p2 o2 so2
          exact hz g2 (hp.tr p2) (fun j hj => by rw [o2 j hj, ho j hj]) (fun q => so2 (hlt.2 q))
        · intro h1 a b _ hab hb
          rw [show a = b by omega]
          exact Int.le_refl _
  unfold wp_X8_sort
  refine ⟨by decide, ?_⟩
  intro x14 e14
  rw [show (2 : Int32) = nI 2 from rfl, pk_div (by omega) (by decide) (by decide)] at e14
  obtain ⟨z, hz⟩ := all (m / 2) (by omega)
  refine ⟨z, ?_⟩
  rw [e14]
  refine hz f0 Pm.rf (fun j _ => rfl) (fun q => ?_)
  intro a b _ hab hb
  rw [show a = b by omega]
  exact Int.le_refl _
/-! ===== the reference's way: heaps ===== -/
def Hn (f : Nat → Int32) (m i : Nat) : Prop := (2 * i + 1 < m → (f (2 * i + 1)).toInt ≤ (f i).toInt) ∧ (2 * i + 2 < m → (f (2 * i + 2)).toInt ≤ (f i).toInt)
def Hp (f : Nat → Int32) (a m : Nat) : Prop := ∀ i, a ≤ i → Hn f m i
theorem hp_max {f : Nat → Int32} {m : Nat} (h : Hp f 0 m) : ∀ i, i < m → (f i).toInt ≤ (f 0).toInt := by
  intro i
  induction i using Nat.strongRecOn with
  | _ i ih =>
    intro hi
    by_cases h0 : i = 0
    · rw [h0]; exact Int.le_refl _
    · have hpar := h ((i - 1) / 2) (Nat.zero_le _)
      have h2 := ih ((i - 1) / 2) (by omega) (by omega)
      rcases (show i = 2 * ((i - 1) / 2) + 1 ∨ i = 2 * ((i - 1) / 2) + 2 by omega) with q | q
      · have := hpar.1 (by omega)
        rw [← q] at this
        omega
      · have := hpar.2 (by omega)
        rw [← q] at this
        omega
theorem sp_sink {a m : Nat} {f0 : Nat → Int32} {Q : (Nat → Int32) → Prop} (hm : m ≤ 8192) (ha : a < m ∨ a = 0) (h0 : Hp f0 (a + 1) m) (h : ∀ g, Pm m f0 g → (∀ j, m ≤ j → g j = f0 j) → Hp g a m → Q g) : wp_X10_sink f0 (nI a) (nI m) Q := by
  have fin : ∀ (v : Nat) (g : Nat → Int32), Pm m f0 g → (∀ j, m ≤ j → g j = f0 j) → Hp g a m → wp_X10_sink_h5 Q 1 (nI m) (nI v) 0 g := by
    intro v g p o hh
    unfold wp_X10_sink_h5
    exact br_t rfl (h g p o hh)
  have key : ∀ d at_, a ≤ at_ → (at_ < m ∨ at_ = a) → at_ + d = m + a → ∀ g, Pm m f0 g → (∀ j, m ≤ j → g j = f0 j) → (∀ i, a ≤ i → i ≠ at_ → Hn g m i) → (at_ ≠ a → (2 * at_ + 1 < m → (g (2 * at_ + 1)).toInt ≤ (g ((at_ - 1) / 2)).toInt) ∧ (2 * at_ + 2 < m → (g (2 * at_ + 2)).toInt ≤ (g ((at_ - 1) / 2)).toInt) ∧ a ≤ (at_ - 1) / 2) → ∃ z, wp_X10_sink_h5 Q z (nI m) (nI at_) 1 g := by
    intro d
    induction d using Nat.strongRecOn with
    | _ d ih =>
      intro at_ ha1 ha2 hd g hp ho hn hpar
      have hat : at_ ≤ 8192 := by omega
      -- no child is greater
      have stop : ∀ (c : Nat), (m ≤ c ∨ (g c).toInt ≤ (g at_).toInt) → (Hn g m at_) → ∀ (z : Nat), c ≤ 20000 → wp_X10_sink_j81 (wp_X10_sink_h5 Q (z + 1)) Q (nI m) (nI at_) (nI c) g := by
        intro c _ hh z _
        unfold wp_X10_sink_j81 wp_X10_sink_j82 wp_X10_sink_j122
        refine br_t rfl ?_
        unfold wp_X10_sink_h5
        exact br_t rfl (h g hp ho (fun i hi => by by_cases e : i = at_
                                                  · rw [e]; exact hh
                                                  · exact hn i hi e))
      -- the greater child is greater
      have go : ∀ (c : Nat), (c = 2 * at_ + 1 ∨ c = 2 * at_ + 2) → c < m → (g at_).toInt < (g c).toInt → (2 * at_ + 1 < m → (g (2 * at_ + 1)).toInt ≤ (g c).toInt) → (2 * at_ + 2 < m → (g (2 * at_ + 2)).toInt ≤ (g c).toInt) → ∃ z, wp_X10_sink_j82 (wp_X10_sink_h5 Q z) Q (nI m) (nI at_) (nI c) 1 g := by
        intro c hc hcm hlt m1 m2
        obtain ⟨g', hg'⟩ : ∃ g', g' = upd (upd g at_ (g c)) c (g at_) := ⟨_, rfl⟩
        have vA : g' at_ = g c := by rw [hg']; unfold upd; rw [if_neg (by omega), if_pos rfl]
        have vC : g' c = g at_ := by rw [hg']; unfold upd; rw [if_pos rfl]
        have vO : ∀ j, j ≠ at_ → j ≠ c → g' j = g j := fun j h1 h2 => by rw [hg']; unfold upd; rw [if_neg h2, if_neg h1]
        have hpm : Pm m g g' := by rw [hg']; exact pm_swap (by omega) hcm (by omega)
        obtain ⟨z, hz⟩ := ih (m + a - c) (by omega) c (by omega) (Or.inl hcm) (by omega) g' (hp.tr hpm) (fun j hj => by rw [vO j (by omega) (by omega)]; exact ho j hj) (by
          intro i hi hic
          by_cases hia : i = at_
          · subst hia
            refine ⟨fun q => ?_, fun q => ?_⟩
            · rw [vA]
              by_cases e : 2 * i + 1 = c
              · rw [e, vC]; omega
              · rw [vO _ (by omega) e]; exact m1 q
            · rw [vA]
              by_cases e : 2 * i + 2 = c
              · rw [e, vC]; omega
              · rw [vO _ (by omega) e]; exact m2 q
          · have hni := hn i hi hia
            refine ⟨fun q => ?_, fun q => ?_⟩
            · rw [vO i hia hic]
              by_cases e : 2 * i + 1 = at_
              · rw [e, vA]
                have hp3 := hpar (by omega)
                have e2 : (at_ - 1) / 2 = i := by omega
                rw [e2] at hp3
                rcases hc with r | r
                · rw [r]; exact hp3.1 (by omega)
                · rw [r]; exact hp3.2.1 (by omega)
              · rw [vO _ e (by omega)]; exact hni.1 q
            · rw [vO i hia hic]
              by_cases e : 2 * i + 2 = at_
              · rw [e, vA]
                have hp3 := hpar (by omega)
                have e2 : (at_ - 1) / 2 = i := by omega
                rw [e2] at hp3
                rcases hc with r | r
                · rw [r]; exact hp3.1 (by omega)
                · rw [r]; exact hp3.2.1 (by omega)
              · rw [vO _ e (by omega)]; exact hni.2 q) (by
          intro _
          have e2 : (c - 1) / 2 = at_ := by omega
          rw [e2, vA]
          have hnc := hn c (by omega) (by omega)
          refine ⟨fun q => ?_, fun q => ?_, ha1⟩
          · rw [vO _ (by omega) (by omega)]; exact hnc.1 q
          · rw [vO _ (by omega) (by omega)]; exact hnc.2 q)
        refine ⟨z, ?_⟩
        unfold wp_X10_sink_j82 wp_X10_sink_j122
        refine br_f (by decide) ⟨vp_in_nI (by omega) (by omega), ?_⟩
        intro x2 e2
        refine ⟨vp_in_nI (by omega) (by omega), ?_⟩
        intro x3 e3
        refine ⟨vp_in_nI (by omega) (by omega), ?_⟩
        intro g4 e4
        refine ⟨vp_in_nI (by omega) (by omega), ?_⟩
        intro g5 e5
        rw [J_cl (by omega)] at e2 e3 e4 e5
        rw [e5, e4, e3, e2, ← hg']
        exact hz
      have cmp : ∀ (c : Nat), (c = 2 * at_ + 1 ∨ c = 2 * at_ + 2) → (2 * at_ + 1 < m → (g (2 * at_ + 1)).toInt ≤ (g c).toInt) → (2 * at_ + 2 < m → (g (2 * at_ + 2)).toInt ≤ (g c).toInt) → (m ≤ c → m ≤ 2 * at_ + 1) → ∃ z, wp_X10_sink_j53 (wp_X10_sink_h5 Q z) Q (nI m) (nI at_) (nI c) g := by
        intro c hc m1 m2 hcm
        by_cases q1 : m ≤ c
        · refine ⟨1, ?_⟩
          unfold wp_X10_sink_j53
          exact br_t (nI_le q1 (by omega)) (stop c (Or.inl q1) ⟨fun q => by have := hcm q1; omega, fun q => by have := hcm q1; omega⟩ 0 (by omega))
        · by_cases q2 : (g c).toInt ≤ (g at_).toInt
          · refine ⟨1, ?_⟩
            unfold wp_X10_sink_j53
            refine br_f (nI_ge (by omega) (by omega)) ⟨vp_in_nI (by omega) (by omega), vp_in_nI (by omega) (by omega), ?_⟩
            rw [J_cl (by omega), J_cl (by omega)]
            refine br_t ((fa_le _ _).mpr q2) (stop c (Or.inr q2) ⟨fun q => ?_, fun q => ?_⟩ 0 (by omega))
            · have := m1 q; omega
            · have := m2 q; omega
          · obtain ⟨z, hz⟩ := go c hc (by omega) (by omega) m1 m2
            refine ⟨z, ?_⟩
            unfold wp_X10_sink_j53
            refine br_f (nI_ge (by omega) (by omega)) ⟨vp_in_nI (by omega) (by omega), vp_in_nI (by omega) (by omega), ?_⟩
            rw [J_cl (by omega), J_cl (by omega)]
            exact br_f (fun q => q2 ((fa_le _ _).mp q)) hz
      have ex9 : ∀ x9 : Int32, x9 = ((2 * nI at_) + 1) → x9 = nI (2 * at_ + 1) := by
        intro x9 e9
        rw [e9, show (2 : Int32) = nI 2 from rfl, pk_mul, nI_1]
      by_cases c1 : m ≤ 2 * at_ + 2
      · obtain ⟨z, hz⟩ := cmp (2 * at_ + 1) (Or.inl rfl) (fun _ => Int.le_refl _) (fun q => by omega) (fun q => q)
        refine ⟨z + 1, ?_⟩
        unfold wp_X10_sink_h5 wp_X10_sink_j51
        refine br_f (by decide) ?_
        intro x9 e9
        rw [ex9 x9 e9, nI_1]
        exact br_t (nI_le c1 (by omega)) hz
      · by_cases c2 : (g (2 * at_ + 2)).toInt ≤ (g (2 * at_ + 1)).toInt
        · obtain ⟨z, hz⟩ := cmp (2 * at_ + 1) (Or.inl rfl) (fun _ => Int.le_refl _) (fun _ => c2) (fun q => q)
          refine ⟨z + 1, ?_⟩
          unfold wp_X10_sink_h5 wp_X10_sink_j51
          refine br_f (by decide) ?_
          intro x9 e9
          rw [ex9 x9 e9, nI_1]
          refine br_f (nI_ge (by omega) (by omega)) ⟨vp_in_nI (by omega) (by omega), vp_in_nI (by omega) (by omega), ?_⟩
          rw [J_cl (by omega), J_cl (by omega)]
          exact br_t ((fa_le _ _).mpr c2) hz
        · obtain ⟨z, hz⟩ := cmp (2 * at_ + 2) (Or.inr rfl) (fun _ => by omega) (fun _ => Int.le_refl _) (fun q => by omega)
          refine ⟨z + 1, ?_⟩
          unfold wp_X10_sink_h5 wp_X10_sink_j51
          refine br_f (by decide) ?_
          intro x9 e9
          rw [ex9 x9 e9, nI_1]
          refine br_f (nI_ge (by omega) (by omega)) ⟨vp_in_nI (by omega) (by omega), vp_in_nI (by omega) (by omega), ?_⟩
          rw [J_cl (by omega), J_cl (by omega)]
          exact br_f (fun q => c2 ((fa_le _ _).mp q)) hz
  unfold wp_X10_sink
  exact key m a (Nat.le_refl a) (Or.inr rfl) (by omega) f0 Pm.rf (fun j _ => rfl) (fun i hi hne => h0 i (by omega)) (fun q => absurd rfl q)
theorem sp_heap {m : Nat} {f0 : Nat → Int32} {Q : (Nat → Int32) → Prop} (hm : m ≤ 8192) (h : ∀ g, Pm m f0 g → Srt 0 m g → (∀ j, m ≤ j → g j = f0 j) → Q g) : wp_X10_sort f0 (nI m) Q := by
  -- taking the greatest away
  have take : ∀ k, k < m → ∀ g, Pm m f0 g → (∀ j, m ≤ j → g j = f0 j) → Hp g 0 (k + 1) → Srt (k + 1) m g → (∀ i j, i ≤ k → k < j → j < m → (g i).toInt ≤ (g j).toInt) → wp_X10_sort_h26 Q (k + 1) (nI k) g := by
    intro k
    induction k with
    | zero =>
      intro hk g hp ho hh hs hb
      unfold wp_X10_sort_h26
      refine br_t (by decide) (h g hp ?_ ho)
      intro i j _ hij hj
      by_cases e : i = 0
      · by_cases e2 : j = 0
        · rw [e, e2]; exact Int.le_refl _
        · exact hb i j (by omega) (by omega) hj
      · exact hs i j (by omega) hij hj
    | succ k ih =>
      intro hk g hp ho hh hs hb
      unfold wp_X10_sort_h26
      refine br_f (nI_nle (by omega) (by omega)) ⟨vp_in_nI (n := 0) (by omega) (by omega), ?_⟩
      intro x2 e2
      refine ⟨vp_in_nI (by omega) (by omega), ?_⟩
      intro x3 e3
      refine ⟨vp_in_nI (n := 0) (by omega) (by omega), ?_⟩
      intro g4 e4
      refine ⟨vp_in_nI (by omega) (by omega), ?_⟩
      intro g5 e5
      rw [sb_cl0] at e2 e4
      rw [J_cl (by omega)] at e3 e5
      subst e2; subst e3; subst e4
      have v0 : g5 0 = g (k + 1) := by rw [e5]; unfold upd; rw [if_neg (by omega), if_pos rfl]
      have vk : g5 (k + 1) = g 0 := by rw [e5]; unfold upd; rw [if_pos rfl]
      have vO : ∀ j, j ≠ 0 → j ≠ k + 1 → g5 j = g j := fun j h1 h2 => by rw [e5]; unfold upd; rw [if_neg h2, if_neg h1]
      have hpm : Pm m g g5 := by rw [e5]; exact pm_swap (by omega) (by omega) (by omega)
      have hmax := hp_max hh
      refine sp_sink (a := 0) (by omega) (Or.inr rfl) ?_ ?_
      · intro i hi
        have hni := hh i (Nat.zero_le i)
        refine ⟨fun q => ?_, fun q => ?_⟩
        · rw [vO _ (by omega) (by omega), vO _ (by omega) (by omega)]; exact hni.1 (by omega)
        · rw [vO _ (by omega) (by omega), vO _ (by omega) (by omega)]; exact hni.2 (by omega)
      · intro g2 p2 o2 h2
        intro x7 e7
        rw [J_lvl] at e7
        rw [e7]
        have hall : ∀ i, i ≤ k → (g2 i).toInt ≤ (g 0).toInt := by
          intro i hi
          have := pm_all p2 (fun x => decide (x.toInt ≤ (g 0).toInt)) (fun j hj => decide_eq_true (by
            by_cases e : j = 0
            · rw [e, v0]; exact hmax _ (by omega)
            · rw [vO j e (by omega)]; exact hmax _ (by omega))) i (by omega)
          exact of_decide_eq_true this
        have hall2 : ∀ j, k + 1 < j → j < m → ∀ i, i ≤ k → (g2 i).toInt ≤ (g j).toInt := by
          intro j hj1 hj2 i hi
          have h3 := hall i hi
          have h4 := hb 0 j (by omega) hj1 hj2
          omega
        refine ih (by omega) g2 (hp.tr (hpm.tr (pm_ext (by omega) p2 o2))) (fun j hj => by rw [o2 j (by omega), vO j (by omega) (by omega), ho j hj]) h2 ?_ ?_
        · intro i j hi hij hj
          rw [o2 i (by omega), o2 j (by omega)]
          by_cases e : i = k + 1
          · by_cases e2 : j = k + 1
            · rw [e, e2]; exact Int.le_refl _
            · rw [e, vk, vO j (by omega) e2]; exact hb 0 j (by omega) (by omega) hj
          · rw [vO i (by omega) e, vO j (by omega) (by omega)]; exact hs i j (by omega) hij hj
        · intro i j hi hj1 hj2
          rw [o2 j (by omega)]
          by_cases e : j = k + 1
          · rw [e, vk]; exact hall i hi
          · rw [vO j (by omega) e]; exact hall2 j (by omega) hj2 i hi
  -- making the heap
  have fin : ∀ g, Pm m f0 g → (∀ j, m ≤ j → g j = f0 j) → Hp g 0 m → wp_X10_sort_h6 Q 1 (nI m) (-1) g := by
    intro g hp ho hh
    unfold wp_X10_sort_h6
    refine br_t (by decide) ?_
    intro x9 e9
    by_cases hm0 : m = 0
    · subst hm0
      refine ⟨1, ?_⟩
      unfold wp_X10_sort_h26
      refine br_t (by rw [e9]; decide) (h g hp (fun i j _ hij hj => by omega) ho)
    · rw [show (1 : Int32) = nI 1 from rfl, pk_sub (by omega)] at e9
      rw [e9]
      exact ⟨_, take (m - 1) (by omega) g hp ho (by rw [show m - 1 + 1 = m by omega]; exact hh) (fun i j hi hij hj => by omega) (fun i j hi hj1 hj2 => by omega)⟩
  have make : ∀ k, k < m → ∀ g, Pm m f0 g → (∀ j, m ≤ j → g j = f0 j) → Hp g (k + 1) m → wp_X10_sort_h6 Q (k + 2) (nI m) (nI k) g := by
    intro k
    induction k with
    | zero =>
      intro hk g hp ho hh
      unfold wp_X10_sort_h6
      refine br_f (by decide) ?_
      refine sp_sink hm (Or.inl hk) hh ?_
      intro g2 p2 o2 h2
      intro x12 e12
      rw [e12]
      exact fin g2 (hp.tr p2) (fun j hj => by rw [o2 j hj, ho j hj]) h2
    | succ k ih =>
      intro hk g hp ho hh
      unfold wp_X10_sort_h6
      refine br_f (nI_pos (by omega)) ?_
      refine sp_sink hm (Or.inl hk) hh ?_
      intro g2 p2 o2 h2
      intro x12 e12
      rw [J_lvl] at e12
      rw [e12]
      exact ih (by omega) g2 (hp.tr p2) (fun j hj => by rw [o2 j hj, ho j hj]) h2
  unfold wp_X10_sort
  refine ⟨by decide, ?_⟩
  intro x13 e13
  rw [show (2 : Int32) = nI 2 from rfl, pk_div (by omega) (by decide) (by decide)] at e13
  by_cases hm2 : m / 2 = 0
  · rw [hm2] at e13
    rw [e13]
    exact ⟨1, fin f0 Pm.rf (fun j _ => rfl) (fun i _ => ⟨fun q => by omega, fun q => by omega⟩)⟩
  · rw [show (1 : Int32) = nI 1 from rfl, pk_sub (by omega)] at e13
    rw [e13]
    exact ⟨_, make (m / 2 - 1) (by omega) f0 Pm.rf (fun j _ => rfl) (fun i hi => ⟨fun q => by omega, fun q => by omega⟩)⟩
