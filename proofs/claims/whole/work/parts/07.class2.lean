def wp_X9_steady_j20 (Q : Int32 → Prop)  : Prop := Q (-1000000002)
def wp_X9_steady_h30 (Q : Int32 → Prop) : Nat → Int32 → Int32 → Int64 → Int32 → Prop
  | 0, _, _, _, _ => False
  | z30 + 1, l1, l2, l3, l5 => (l1 ≤ l5 → (Q ((l3 : Int64).toInt32))) ∧ (¬ l1 ≤ l5 → ((¬ (100 : Int64) = 0) ∧ ∀ x2 : Int64, x2 = ((l3 * (l2.toInt64)) / 100) → ∀ x3 : Int32, x3 = l5 + 1 → (wp_X9_steady_h30 Q z30) l1 l2 x2 x3))
def wp_X9_steady (p1 : Int32) (p2 : Int32) (Q : Int32 → Prop) : Prop := (p1 < 0 → (wp_X9_steady_j20 Q )) ∧ (¬ p1 < 0 → ((60 < p1 → (wp_X9_steady_j20 Q )) ∧ (¬ 60 < p1 → ((p2 < 0 → (wp_X9_steady_j20 Q )) ∧ (¬ p2 < 0 → ((p2 ≤ 100 → (∃ k8 : Nat, wp_X9_steady_h30 Q k8 p1 p2 1000000000 0)) ∧ (¬ p2 ≤ 100 → (wp_X9_steady_j20 Q ))))))))
abbrev rmX9_steady : Room := { frames := 0, cells := 0, slots := 0, locals := 0 }
set_option maxHeartbeats 4000000 in
set_option maxRecDepth 100000 in
theorem c_X9_steady (l : Launch) (dC : Nat → ClassId) (dI : Nat → Nat → Nat) (cI cZ : ClassId) (q0 q_text q_past q_ear q_tilings q_mending q_images : Nat) (v_beats : Int32) (v_rhythm : Int32) (v_draws : Int32) (v_faultAt : Int32) (p1 : Int32) (p2 : Int32) (Q : Int32 → Prop) (h : wp_X9_steady p1 p2 Q) : Met l yX9_steady wsX9_steady (rmX9_steady) (va_Pc [.ref q0, .int p1, .int p2] (fun U => va_P (dC, dI) vwCl [(q0, .inr (6, [.ref q_text, .ref q_past, .ref q_ear, .ref q_tilings, .ref q_mending, .ref q_images, .int v_beats, .int v_rhythm, .int v_draws, .int v_faultAt]))] U.heap ∧ va_K (dC, dI) vwCl (tyZ cI cZ) U ∧ nW U)) (vp_Si Q) 0 0 (fun _ => False) := by
  unfold wp_X9_steady at h
  refine Met.ofW (cc := cX9_steady) (maxL := 6) (ret := (some .int)) (by decide) rfl ?_
  intro p e s m args below meth c s₁ B hml hv
  obtain ⟨rfl, hP, hK, hN⟩ := hv
  have hx := B.exec
  have hb := B.bytes
  have hr := B.returns
  have hts := atoms_spec (ws := wsX9_steady) B.pre
  have hown : s.vm.findClass RX9 = some m.cls := findClass_of_methodNamed B.named
  have hlocks := B.notSynchronized
  have w20 : wp_X9_steady_j20 Q → ∀ (ls : Array Slot), lv_has ls 6 [] → W p l e (headSpec wsX9_steady (rmX9_steady)).room s m ([.ref q0, .int p1, .int p2] : List Value).toArray below meth c s.heap [] 0 0 (MQ below (vp_Si Q) ([.ref q0, .int p1, .int p2] : List Value).toArray s 0 0 (fun _ => False)) (F0 m 20 ls []) := by
    intro  h ls hl
    unfold wp_X9_steady_j20 at h
    refine lv_ldc (v := (-1000000002)) hx hb hown (hts (.constant RX9 66 (-1000000002)) (by decide +kernel)) dX9_steady_20 ?_
    exact W.iret (v := (-1000000002)) hx hb hr (fun t ht hW => ⟨_, rfl, h, ht⟩) (fun _ h => by cases h) dX9_steady_22
  have w30 : ∀ (z30 : Nat) (l1 : Int32) (l2 : Int32) (l3 : Int64) (l5 : Int32), wp_X9_steady_h30 Q z30 l1 l2 l3 l5 → ∀ (ls : Array Slot), lv_has ls 6 [(1, .int l1), (2, .int l2), (3, .long l3), (5, .int l5)] → W p l e (headSpec wsX9_steady (rmX9_steady)).room s m ([.ref q0, .int p1, .int p2] : List Value).toArray below meth c s.heap [] 0 0 (MQ below (vp_Si Q) ([.ref q0, .int p1, .int p2] : List Value).toArray s 0 0 (fun _ => False)) (F0 m 30 ls []) := by
    intro z30
    induction z30 with
    | zero => intro l1 l2 l3 l5 h; unfold wp_X9_steady_h30 at h; exact h.elim
    | succ z30 k30 =>
      intro l1 l2 l3 l5 h ls hl
      unfold wp_X9_steady_h30 at h
      refine lv_iload hx hb dX9_steady_30 (lv_at hl 3 rfl) ?_
      refine lv_iload_n hx hb dX9_steady_32 rfl (lv_at hl 0 rfl) ?_
      refine lv_icmp_ge (tgt := 51) hx hb dX9_steady_33 (by decide) (fun c1 => ?_) (fun c1 => ?_)
      · replace h := h.1 c1
        refine lv_lload_n hx hb dX9_steady_51 rfl (lv_at hl 2 rfl) ?_
        refine lv_l2i (v := ((l3 : Int64).toInt32)) hx hb dX9_steady_52 rfl ?_
        exact W.iret (v := ((l3 : Int64).toInt32)) hx hb hr (fun t ht hW => ⟨_, rfl, h, ht⟩) (fun _ h => by cases h) dX9_steady_53
      · replace h := h.2 c1
        refine lv_lload_n hx hb dX9_steady_36 rfl (lv_at hl 2 rfl) ?_
        refine lv_iload_n hx hb dX9_steady_37 rfl (lv_at hl 1 rfl) ?_
        refine lv_i2l (v := (l2.toInt64)) hx hb dX9_steady_38 rfl ?_
        refine lv_lmul hx hb dX9_steady_39 ?_
        refine lv_ldc2 (v := 100) hx hb hown (hts (.constantLong RX9 181 (100)) (by decide +kernel)) dX9_steady_40 ?_
        refine lv_ldiv hx hb dX9_steady_43 h.1 ?_
        replace h := h.2
        refine lv_topl (fun x2 ex2 => ?_)
        replace h := h x2 ex2
        refine lv_lstore_n (lv' := [(3, .long x2), (1, .int l1), (2, .int l2), (5, .int l5)]) hx hb dX9_steady_44 rfl hl (by decide) rfl (fun ls hl => ?_)
        obtain ⟨x3, ex3⟩ : ∃ y : Int32, y = l5 + 1 := ⟨_, rfl⟩
        replace h := h x3 ex3
        refine lv_iinc (v := x3) (lv' := [(5, .int x3), (3, .long x2), (1, .int l1), (2, .int l2)]) hx hb dX9_steady_45 hl (k := 3) rfl (by rw [ex3]; rfl) (by decide) rfl (fun ls hl => ?_)
        refine lv_goto (tgt := 30) hx hb dX9_steady_48 (by decide) ?_
        exact k30 l1 l2 x2 x3 h ls (lv_sub hl [2, 3, 1, 0] rfl)
  have hl := lv_entry ([.ref q0, .int p1, .int p2]) (n := 6) (Nat.le_of_ble_eq_true rfl)
  rw [lg_entry_eq]
  generalize (lg_sl ([.ref q0, .int p1, .int p2]) ++ List.replicate (6 - (lg_sl ([.ref q0, .int p1, .int p2])).length) Slot.unset).toArray = ls at hl ⊢
  have hl : lv_has ls 6 [(0, .ref q0), (1, .int p1), (2, .int p2)] := hl
  refine lv_iload_n hx hb dX9_steady_0 rfl (lv_at hl 1 rfl) ?_
  refine lv_if_lt (tgt := 20) hx hb dX9_steady_1 (by decide) (fun c4 => ?_) (fun c4 => ?_)
  · replace h := h.1 c4
    exact w20  h ls (lv_sub hl [] rfl)
  · replace h := h.2 c4
    refine lv_iload_n hx hb dX9_steady_4 rfl (lv_at hl 1 rfl) ?_
    refine lv_bipush (v := 60) hx hb dX9_steady_5 (by decide) ?_
    refine lv_icmp_gt (tgt := 20) hx hb dX9_steady_7 (by decide) (fun c5 => ?_) (fun c5 => ?_)
    · replace h := h.1 c5
      exact w20  h ls (lv_sub hl [] rfl)
    · replace h := h.2 c5
      refine lv_iload_n hx hb dX9_steady_10 rfl (lv_at hl 2 rfl) ?_
      refine lv_if_lt (tgt := 20) hx hb dX9_steady_11 (by decide) (fun c6 => ?_) (fun c6 => ?_)
      · replace h := h.1 c6
        exact w20  h ls (lv_sub hl [] rfl)
      · replace h := h.2 c6
        refine lv_iload_n hx hb dX9_steady_14 rfl (lv_at hl 2 rfl) ?_
        refine lv_bipush (v := 100) hx hb dX9_steady_15 (by decide) ?_
        refine lv_icmp_le (tgt := 23) hx hb dX9_steady_17 (by decide) (fun c7 => ?_) (fun c7 => ?_)
        · replace h := h.1 c7
          refine lv_ldc2 (v := 1000000000) hx hb hown (hts (.constantLong RX9 179 (1000000000)) (by decide +kernel)) dX9_steady_23 ?_
          refine lv_lstore_n (lv' := [(3, .long 1000000000), (0, .ref q0), (1, .int p1), (2, .int p2)]) hx hb dX9_steady_26 rfl hl (by decide) rfl (fun ls hl => ?_)
          refine lv_iconst (v := 0) hx hb dX9_steady_27 (by decide) ?_
          refine lv_istore (lv' := [(5, .int 0), (3, .long 1000000000), (0, .ref q0), (1, .int p1), (2, .int p2)]) hx hb dX9_steady_28 hl (by decide) rfl (fun ls hl => ?_)
          obtain ⟨k8, h⟩ := h
          exact w30 k8 p1 p2 1000000000 0 h ls (lv_sub hl [3, 4, 1, 0] rfl)
        · replace h := h.2 c7
          exact w20  h ls (lv_sub hl [] rfl)

def wp_X9_strike (v_beats : Int32) (v_rhythm : Int32) (v_past_next : Int32) (v_past_count : Int32) (f_past_beats : (Nat → Int32)) (f_past_rhythms : (Nat → Int32)) (p1 : Int32) (Q : Int32 → Int32 → Int32 → Int32 → Int32 → (Nat → Int32) → (Nat → Int32) → Prop) : Prop := wp_X9_isBeat v_beats p1 fun (r1 : Int32) => (¬ r1 = 0 → (wp_X9_change v_beats v_rhythm v_past_next v_past_count f_past_beats f_past_rhythms v_beats (v_rhythm ^^^ (1 <<< (p1 &&& 31))) fun (r3 : Int32) (u4 : Int32) (u5 : Int32) (u6 : Int32) (u7 : Int32) (u8 : (Nat → Int32)) (u9 : (Nat → Int32)) => wp_X6_bit u5 p1 fun (r10 : Int32) => Q r10 u4 u5 u6 u7 u8 u9)) ∧ (r1 = 0 → (Q (-1000000001) v_beats v_rhythm v_past_next v_past_count f_past_beats f_past_rhythms))
abbrev rmX9_strike : Room := { frames := 4, cells := 0, slots := 0, locals := 86 }
set_option maxRecDepth 20000 in
theorem iX9_strike_X9 : ∀ w ∈ wsX90, w ∈ wsX9_strike := by decide +kernel
set_option maxHeartbeats 4000000 in
set_option maxRecDepth 100000 in
theorem c_X9_strike (l : Launch) (dC : Nat → ClassId) (dI : Nat → Nat → Nat) (cI cZ : ClassId) (q0 q_text q_past q_ear q_tilings q_mending q_images q_past_beats q_past_rhythms : Nat) (sz : Nat) (v_beats : Int32) (v_rhythm : Int32) (v_draws : Int32) (v_faultAt : Int32) (v_past_next : Int32) (v_past_count : Int32) (f_past_beats : (Nat → Int32)) (f_past_rhythms : (Nat → Int32)) (p1 : Int32) (Q : Int32 → Int32 → Int32 → Int32 → Int32 → (Nat → Int32) → (Nat → Int32) → Prop) (h : wp_X9_strike v_beats v_rhythm v_past_next v_past_count f_past_beats f_past_rhythms p1 Q) : Met l yX9_strike wsX9_strike (rmX9_strike) (va_Pc [.ref q0, .int p1] (fun U => U.heap.size = sz ∧ va_P (dC, dI) vwCl [(q0, .inr (6, [.ref q_text, .ref q_past, .ref q_ear, .ref q_tilings, .ref q_mending, .ref q_images, .int v_beats, .int v_rhythm, .int v_draws, .int v_faultAt])), (q_past, .inr (3, [.ref q_past_beats, .ref q_past_rhythms, .int v_past_next, .int v_past_count])), (q_past_beats, .inl (cI, 30, .inl f_past_beats)), (q_past_rhythms, .inl (cI, 30, .inl f_past_rhythms))] U.heap ∧ va_K (dC, dI) vwCl (tyZ cI cZ) U ∧ va_D (fun _ => True) [(q0, .inr (6, [.ref q_text, .ref q_past, .ref q_ear, .ref q_tilings, .ref q_mending, .ref q_images, .int v_beats, .int v_rhythm, .int v_draws, .int v_faultAt])), (q_past, .inr (3, [.ref q_past_beats, .ref q_past_rhythms, .int v_past_next, .int v_past_count])), (q_past_beats, .inl (cI, 30, .inl f_past_beats)), (q_past_rhythms, .inl (cI, 30, .inl f_past_rhythms))] ∧ nW U)) (va_Qi (fun (r : Int32) (u : Int32 × Int32 × Int32 × Int32 × (Nat → Int32) × (Nat → Int32)) => Q r u.1 u.2.1 u.2.2.1 u.2.2.2.1 u.2.2.2.2.1 u.2.2.2.2.2) (fun (u : Int32 × Int32 × Int32 × Int32 × (Nat → Int32) × (Nat → Int32)) (t : State) => va_P (dC, dI) vwCl [(q0, .inr (6, [.ref q_text, .ref q_past, .ref q_ear, .ref q_tilings, .ref q_mending, .ref q_images, .int u.1, .int u.2.1, .int v_draws, .int v_faultAt])), (q_past, .inr (3, [.ref q_past_beats, .ref q_past_rhythms, .int u.2.2.1, .int u.2.2.2.1])), (q_past_beats, .inl (cI, 30, .inl u.2.2.2.2.1)), (q_past_rhythms, .inl (cI, 30, .inl u.2.2.2.2.2))] t.heap ∧ va_D (va_A [(q0, .inr (6, [.ref q_text, .ref q_past, .ref q_ear, .ref q_tilings, .ref q_mending, .ref q_images, .int v_beats, .int v_rhythm, .int v_draws, .int v_faultAt])), (q_past, .inr (3, [.ref q_past_beats, .ref q_past_rhythms, .int v_past_next, .int v_past_count])), (q_past_beats, .inl (cI, 30, .inl f_past_beats)), (q_past_rhythms, .inl (cI, 30, .inl f_past_rhythms))] sz) [(q0, .inr (6, [.ref q_text, .ref q_past, .ref q_ear, .ref q_tilings, .ref q_mending, .ref q_images, .int u.1, .int u.2.1, .int v_draws, .int v_faultAt])), (q_past, .inr (3, [.ref q_past_beats, .ref q_past_rhythms, .int u.2.2.1, .int u.2.2.2.1])), (q_past_beats, .inl (cI, 30, .inl u.2.2.2.2.1)), (q_past_rhythms, .inl (cI, 30, .inl u.2.2.2.2.2))]) (va_A [(q0, .inr (6, [.ref q_text, .ref q_past, .ref q_ear, .ref q_tilings, .ref q_mending, .ref q_images, .int v_beats, .int v_rhythm, .int v_draws, .int v_faultAt])), (q_past, .inr (3, [.ref q_past_beats, .ref q_past_rhythms, .int v_past_next, .int v_past_count])), (q_past_beats, .inl (cI, 30, .inl f_past_beats)), (q_past_rhythms, .inl (cI, 30, .inl f_past_rhythms))] sz)) 0 0 (va_A [(q0, .inr (6, [.ref q_text, .ref q_past, .ref q_ear, .ref q_tilings, .ref q_mending, .ref q_images, .int v_beats, .int v_rhythm, .int v_draws, .int v_faultAt])), (q_past, .inr (3, [.ref q_past_beats, .ref q_past_rhythms, .int v_past_next, .int v_past_count])), (q_past_beats, .inl (cI, 30, .inl f_past_beats)), (q_past_rhythms, .inl (cI, 30, .inl f_past_rhythms))] sz) := by
  unfold wp_X9_strike at h
  refine Met.ofW (cc := cX9_strike) (maxL := 2) (ret := (some .int)) (by decide) rfl ?_
  intro p e s m args below meth c s₁ B hml hv
  obtain ⟨rfl, hsz, hP, hK, hD0, hN⟩ := hv
  have hx := B.exec
  have hb := B.bytes
  have hr := B.returns
  have hts := atoms_spec (ws := wsX9_strike) B.pre
  have hown : s.vm.findClass RX9 = some m.cls := findClass_of_methodNamed B.named
  have hlocks := B.notSynchronized
  subst hsz
  have hD := hD0.self (sz := s.heap.size)
  generalize hAe : va_A [(q0, .inr (6, [.ref q_text, .ref q_past, .ref q_ear, .ref q_tilings, .ref q_mending, .ref q_images, .int v_beats, .int v_rhythm, .int v_draws, .int v_faultAt])), (q_past, .inr (3, [.ref q_past_beats, .ref q_past_rhythms, .int v_past_next, .int v_past_count])), (q_past_beats, .inl (cI, 30, .inl f_past_beats)), (q_past_rhythms, .inl (cI, 30, .inl f_past_rhythms))] s.heap.size = A at hD ⊢
  have hA : ∀ q : Nat, s.heap.size ≤ q → A q := fun q h => by rw [← hAe]; exact Or.inr h
  clear hAe
  have hS : va_S A s.heap s.heap [] := va_S.rf
  have hl := lv_entry ([.ref q0, .int p1]) (n := 2) (Nat.le_of_ble_eq_true rfl)
  rw [lg_entry_eq]
  generalize (lg_sl ([.ref q0, .int p1]) ++ List.replicate (2 - (lg_sl ([.ref q0, .int p1])).length) Slot.unset).toArray = ls at hl ⊢
  have hl : lv_has ls 2 [(0, .ref q0), (1, .int p1)] := hl
  refine lv_aload_n hx hb dX9_strike_0 rfl (lv_at hl 0 rfl) ?_
  refine lv_iload_n hx hb dX9_strike_1 rfl (lv_at hl 1 rfl) ?_
  have hPc := hP.sub (ws' := [(q0, .inr (6, [.ref q_text, .ref q_past, .ref q_ear, .ref q_tilings, .ref q_mending, .ref q_images, .int v_beats, .int v_rhythm, .int v_draws, .int v_faultAt]))]) [0] rfl
  refine vs_calli (va_runV (As := [.int p1]) (rest := []) ⟨hx, hb, hml, hown, hts⟩ (c_X9_isBeat l dC dI cI cZ q0 q_text q_past q_ear q_tilings q_mending q_images v_beats v_rhythm v_draws v_faultAt p1 _ h) (cwV 1 hts gX9_strike_X9_isBeat rfl rfl rfl (by decide +kernel) ⟨Nat.le_of_ble_eq_true rfl, Nat.le_of_ble_eq_true rfl⟩) ⟨fun a U g mk q => ⟨q.1, q.2.1, va_K.moved (u := U) (U := U.calling g mk a) (Vm.Alike.refl U.vm) q.2.2.1, nW_call q.2.2.2⟩, va_recv hK hPc (ci := 6) (q0 := 0) rfl rfl, fun U hU hW => ⟨rfl, by rw [hU]; exact hPc, va_K.moved hW.alike hK, nW_warm hW hN⟩⟩ rfl rfl hl.1 rfl (lv_room (Nat.le_of_ble_eq_true rfl)) dX9_strike_2 ⟨Nat.le_of_ble_eq_true rfl, Nat.le_of_ble_eq_true rfl⟩) (fun r1 h => ?_)
  refine lv_if_ne (tgt := 11) hx hb dX9_strike_5 (by decide) (fun c2 => ?_) (fun c2 => ?_)
  · replace h := h.1 c2
    refine lv_aload_n hx hb dX9_strike_11 rfl (lv_at hl 0 rfl) ?_
    refine lv_aload_n hx hb dX9_strike_12 rfl (lv_at hl 0 rfl) ?_
    refine va_get (D := (dC, dI)) (ci := 6) (v := .int v_beats) (C := RX9) (T := TX9) (N := 10) hx hb hts iX9_strike_X9 hown hK hP 0 rfl rfl 6 (by decide) (hts (.fieldLink RX9 53 "TilingBeats" "beats" "I") (by decide +kernel)) (fun _ h9 => h9) rfl dX9_strike_13 ?_
    refine lv_aload_n hx hb dX9_strike_16 rfl (lv_at hl 0 rfl) ?_
    refine va_get (D := (dC, dI)) (ci := 6) (v := .int v_rhythm) (C := RX9) (T := TX9) (N := 10) hx hb hts iX9_strike_X9 hown hK hP 0 rfl rfl 7 (by decide) (hts (.fieldLink RX9 57 "TilingBeats" "rhythm" "I") (by decide +kernel)) (fun _ h9 => h9) rfl dX9_strike_17 ?_
    refine lv_iconst (v := 1) hx hb dX9_strike_20 (by decide) ?_
    refine lv_iload_n hx hb dX9_strike_21 rfl (lv_at hl 1 rfl) ?_
    refine lv_ishl hx hb dX9_strike_22 ?_
    refine lv_ixor hx hb dX9_strike_23 ?_
    have hPc := hP.sub (ws' := [(q0, .inr (6, [.ref q_text, .ref q_past, .ref q_ear, .ref q_tilings, .ref q_mending, .ref q_images, .int v_beats, .int v_rhythm, .int v_draws, .int v_faultAt])), (q_past, .inr (3, [.ref q_past_beats, .ref q_past_rhythms, .int v_past_next, .int v_past_count])), (q_past_beats, .inl (cI, 30, .inl f_past_beats)), (q_past_rhythms, .inl (cI, 30, .inl f_past_rhythms))]) [0, 1, 2, 3] rfl
    have hDc := hD.sub (ws' := [(q0, .inr (6, [.ref q_text, .ref q_past, .ref q_ear, .ref q_tilings, .ref q_mending, .ref q_images, .int v_beats, .int v_rhythm, .int v_draws, .int v_faultAt])), (q_past, .inr (3, [.ref q_past_beats, .ref q_past_rhythms, .int v_past_next, .int v_past_count])), (q_past_beats, .inl (cI, 30, .inl f_past_beats)), (q_past_rhythms, .inl (cI, 30, .inl f_past_rhythms))]) [0, 1, 2, 3] (by decide) rfl
    have hFc := va_free (wc := [(q0, .inr (6, [.ref q_text, .ref q_past, .ref q_ear, .ref q_tilings, .ref q_mending, .ref q_images, .int v_beats, .int v_rhythm, .int v_draws, .int v_faultAt])), (q_past, .inr (3, [.ref q_past_beats, .ref q_past_rhythms, .int v_past_next, .int v_past_count])), (q_past_beats, .inl (cI, 30, .inl f_past_beats)), (q_past_rhythms, .inl (cI, 30, .inl f_past_rhythms))]) hD hS hA [0, 1, 2, 3] rfl
    refine va_calli (va_runV (As := [.int v_beats, .int (v_rhythm ^^^ (1 <<< (p1 &&& 31)))]) (rest := []) ⟨hx, hb, hml, hown, hts⟩ (c_X9_change l dC dI cI cZ q0 q_text q_past q_ear q_tilings q_mending q_images q_past_beats q_past_rhythms s.heap.size v_beats v_rhythm v_draws v_faultAt v_past_next v_past_count f_past_beats f_past_rhythms v_beats (v_rhythm ^^^ (1 <<< (p1 &&& 31))) _ h) (cwV 2 hts gX9_strike_X9_change rfl rfl rfl (by decide +kernel) ⟨Nat.le_of_ble_eq_true rfl, Nat.le_of_ble_eq_true rfl⟩) ⟨fun a U g mk q => ⟨q.1, q.2.1, q.2.2.1, va_K.moved (u := U) (U := U.calling g mk a) (Vm.Alike.refl U.vm) q.2.2.2.1, q.2.2.2.2.1, nW_call q.2.2.2.2.2⟩, va_recv hK hPc (ci := 6) (q0 := 0) rfl rfl, fun U hU hW => ⟨rfl, by rw [hU], by rw [hU]; exact hPc, va_K.moved hW.alike hK, hDc.weaken (fun _ _ _ _ => trivial), nW_warm hW hN⟩⟩ rfl rfl hl.1 rfl (lv_room (Nat.le_of_ble_eq_true rfl)) dX9_strike_24 ⟨Nat.le_of_ble_eq_true rfl, Nat.le_of_ble_eq_true rfl⟩) hS (fun q _ h => hFc q h) hFc (fun r3 u t H1 locs ht hvm hw hB hz1 hk1 hS => ?_)
    obtain ⟨u4, u5, u6, u7, u8, u9⟩ := u
    obtain ⟨hP1, hD1⟩ := hB
    rw [ht] at hP1
    replace h := hw
    try dsimp only at h
    obtain ⟨hP, hD⟩ := va_join (wr := []) (w1 := [(q0, .inr (6, [.ref q_text, .ref q_past, .ref q_ear, .ref q_tilings, .ref q_mending, .ref q_images, .int u4, .int u5, .int v_draws, .int v_faultAt])), (q_past, .inr (3, [.ref q_past_beats, .ref q_past_rhythms, .int u6, .int u7])), (q_past_beats, .inl (cI, 30, .inl u8)), (q_past_rhythms, .inl (cI, 30, .inl u9))]) hP hD [0, 1, 2, 3] [] rfl rfl (by decide) (by decide) hk1 hFc hP1 hD1
    clear hP1 hD1 hFc hDc hPc hk1 hz1 hw hvm ht
    generalize H1 = H at hP hS ⊢
    have hP : va_P (dC, dI) vwCl [(q0, .inr (6, [.ref q_text, .ref q_past, .ref q_ear, .ref q_tilings, .ref q_mending, .ref q_images, .int u4, .int u5, .int v_draws, .int v_faultAt])), (q_past, .inr (3, [.ref q_past_beats, .ref q_past_rhythms, .int u6, .int u7])), (q_past_beats, .inl (cI, 30, .inl u8)), (q_past_rhythms, .inl (cI, 30, .inl u9))] H := hP.sub [0, 1, 2, 3] rfl
    have hD : va_D A [(q0, .inr (6, [.ref q_text, .ref q_past, .ref q_ear, .ref q_tilings, .ref q_mending, .ref q_images, .int u4, .int u5, .int v_draws, .int v_faultAt])), (q_past, .inr (3, [.ref q_past_beats, .ref q_past_rhythms, .int u6, .int u7])), (q_past_beats, .inl (cI, 30, .inl u8)), (q_past_rhythms, .inl (cI, 30, .inl u9))] := hD.sub [0, 1, 2, 3] (by decide) rfl
    refine lv_pop hx hb dX9_strike_27 rfl ?_
    refine lv_aload_n hx hb dX9_strike_28 rfl (lv_at hl 0 rfl) ?_
    refine va_get (D := (dC, dI)) (ci := 6) (v := .int u5) (C := RX9) (T := TX9) (N := 10) hx hb hts iX9_strike_X9 hown hK hP 0 rfl rfl 7 (by decide) (hts (.fieldLink RX9 57 "TilingBeats" "rhythm" "I") (by decide +kernel)) (fun _ h9 => h9) rfl dX9_strike_29 ?_
    refine lv_iload_n hx hb dX9_strike_32 rfl (lv_at hl 1 rfl) ?_
    refine vs_calli (va_runSN (As := [.int u5, .int p1]) (rest := []) ⟨hx, hb, hml, hown, hts⟩ (c_X6_bit l u5 p1 _ h) ⟨va_cnB 2 hts gX9_strike_X6_bit_n183 rfl rfl rfl (nw_53 hN) (hts (.initialized RX6) (by decide +kernel)) (by decide +kernel) ⟨Nat.le_of_ble_eq_true rfl, Nat.le_of_ble_eq_true rfl⟩, hts (.static yX6_bit) (by decide +kernel), trivial⟩ ⟨fun a U g mk q => ⟨q.1, nW_call q.2⟩, fun U hU hW => ⟨rfl, nW_warm hW hN⟩⟩ rfl rfl hl.1 rfl (lv_room (Nat.le_of_ble_eq_true rfl)) dX9_strike_33 ⟨Nat.le_of_ble_eq_true rfl, Nat.le_of_ble_eq_true rfl⟩) (fun r10 h => ?_)
    exact W.iret (v := r10) hx hb hr (fun t ht hW => ⟨⟨_, (u4, u5, u6, u7, u8, u9), rfl, h, by rw [ht]; exact hP, hD⟩, hS.F ht⟩) hS.2.2 dX9_strike_36
  · replace h := h.2 c2
    refine lv_ldc (v := (-1000000001)) hx hb hown (hts (.constant RX9 134 (-1000000001)) (by decide +kernel)) dX9_strike_8 ?_
    exact W.iret (v := (-1000000001)) hx hb hr (fun t ht hW => ⟨⟨_, (v_beats, v_rhythm, v_past_next, v_past_count, f_past_beats, f_past_rhythms), rfl, h, by rw [ht]; exact hP, hD⟩, hS.F ht⟩) hS.2.2 dX9_strike_10

def wp_X9_even_j12 (Q : Int32 → Int32 → Int32 → Int32 → Int32 → (Nat → Int32) → (Nat → Int32) → Prop) (v_beats : Int32) (v_rhythm : Int32) (v_past_next : Int32) (v_past_count : Int32) (f_past_beats : (Nat → Int32)) (f_past_rhythms : (Nat → Int32)) : Prop := Q (-1000000002) v_beats v_rhythm v_past_next v_past_count f_past_beats f_past_rhythms
def wp_X9_even (v_beats : Int32) (v_rhythm : Int32) (v_past_next : Int32) (v_past_count : Int32) (f_past_beats : (Nat → Int32)) (f_past_rhythms : (Nat → Int32)) (p1 : Int32) (Q : Int32 → Int32 → Int32 → Int32 → Int32 → (Nat → Int32) → (Nat → Int32) → Prop) : Prop := (p1 < 0 → (wp_X9_even_j12 Q v_beats v_rhythm v_past_next v_past_count f_past_beats f_past_rhythms)) ∧ (¬ p1 < 0 → ((p1 ≤ v_beats → (wp_X6_evenly v_beats p1 fun (r3 : Int32) => wp_X9_change v_beats v_rhythm v_past_next v_past_count f_past_beats f_past_rhythms v_beats r3 fun (r4 : Int32) (u5 : Int32) (u6 : Int32) (u7 : Int32) (u8 : Int32) (u9 : (Nat → Int32)) (u10 : (Nat → Int32)) => Q r4 u5 u6 u7 u8 u9 u10)) ∧ (¬ p1 ≤ v_beats → (wp_X9_even_j12 Q v_beats v_rhythm v_past_next v_past_count f_past_beats f_past_rhythms))))
abbrev rmX9_even : Room := { frames := 4, cells := 0, slots := 0, locals := 86 }
set_option maxRecDepth 20000 in
theorem iX9_even_X9 : ∀ w ∈ wsX90, w ∈ wsX9_even := by decide +kernel
set_option maxHeartbeats 4000000 in
set_option maxRecDepth 100000 in
theorem c_X9_even (l : Launch) (dC : Nat → ClassId) (dI : Nat → Nat → Nat) (cI cZ : ClassId) (q0 q_text q_past q_ear q_tilings q_mending q_images q_past_beats q_past_rhythms : Nat) (sz : Nat) (v_beats : Int32) (v_rhythm : Int32) (v_draws : Int32) (v_faultAt : Int32) (v_past_next : Int32) (v_past_count : Int32) (f_past_beats : (Nat → Int32)) (f_past_rhythms : (Nat → Int32)) (p1 : Int32) (Q : Int32 → Int32 → Int32 → Int32 → Int32 → (Nat → Int32) → (Nat → Int32) → Prop) (h : wp_X9_even v_beats v_rhythm v_past_next v_past_count f_past_beats f_past_rhythms p1 Q) : Met l yX9_even wsX9_even (rmX9_even) (va_Pc [.ref q0, .int p1] (fun U => U.heap.size = sz ∧ va_P (dC, dI) vwCl [(q0, .inr (6, [.ref q_text, .ref q_past, .ref q_ear, .ref q_tilings, .ref q_mending, .ref q_images, .int v_beats, .int v_rhythm, .int v_draws, .int v_faultAt])), (q_past, .inr (3, [.ref q_past_beats, .ref q_past_rhythms, .int v_past_next, .int v_past_count])), (q_past_beats, .inl (cI, 30, .inl f_past_beats)), (q_past_rhythms, .inl (cI, 30, .inl f_past_rhythms))] U.heap ∧ va_K (dC, dI) vwCl (tyZ cI cZ) U ∧ va_D (fun _ => True) [(q0, .inr (6, [.ref q_text, .ref q_past, .ref q_ear, .ref q_tilings, .ref q_mending, .ref q_images, .int v_beats, .int v_rhythm, .int v_draws, .int v_faultAt])), (q_past, .inr (3, [.ref q_past_beats, .ref q_past_rhythms, .int v_past_next, .int v_past_count])), (q_past_beats, .inl (cI, 30, .inl f_past_beats)), (q_past_rhythms, .inl (cI, 30, .inl f_past_rhythms))] ∧ nW U)) (va_Qi (fun (r : Int32) (u : Int32 × Int32 × Int32 × Int32 × (Nat → Int32) × (Nat → Int32)) => Q r u.1 u.2.1 u.2.2.1 u.2.2.2.1 u.2.2.2.2.1 u.2.2.2.2.2) (fun (u : Int32 × Int32 × Int32 × Int32 × (Nat → Int32) × (Nat → Int32)) (t : State) => va_P (dC, dI) vwCl [(q0, .inr (6, [.ref q_text, .ref q_past, .ref q_ear, .ref q_tilings, .ref q_mending, .ref q_images, .int u.1, .int u.2.1, .int v_draws, .int v_faultAt])), (q_past, .inr (3, [.ref q_past_beats, .ref q_past_rhythms, .int u.2.2.1, .int u.2.2.2.1])), (q_past_beats, .inl (cI, 30, .inl u.2.2.2.2.1)), (q_past_rhythms, .inl (cI, 30, .inl u.2.2.2.2.2))] t.heap ∧ va_D (va_A [(q0, .inr (6, [.ref q_text, .ref q_past, .ref q_ear, .ref q_tilings, .ref q_mending, .ref q_images, .int v_beats, .int v_rhythm, .int v_draws, .int v_faultAt])), (q_past, .inr (3, [.ref q_past_beats, .ref q_past_rhythms, .int v_past_next, .int v_past_count])), (q_past_beats, .inl (cI, 30, .inl f_past_beats)), (q_past_rhythms, .inl (cI, 30, .inl f_past_rhythms))] sz) [(q0, .inr (6, [.ref q_text, .ref q_past, .ref q_ear, .ref q_tilings, .ref q_mending, .ref q_images, .int u.1, .int u.2.1, .int v_draws, .int v_faultAt])), (q_past, .inr (3, [.ref q_past_beats, .ref q_past_rhythms, .int u.2.2.1, .int u.2.2.2.1])), (q_past_beats, .inl (cI, 30, .inl u.2.2.2.2.1)), (q_past_rhythms, .inl (cI, 30, .inl u.2.2.2.2.2))]) (va_A [(q0, .inr (6, [.ref q_text, .ref q_past, .ref q_ear, .ref q_tilings, .ref q_mending, .ref q_images, .int v_beats, .int v_rhythm, .int v_draws, .int v_faultAt])), (q_past, .inr (3, [.ref q_past_beats, .ref q_past_rhythms, .int v_past_next, .int v_past_count])), (q_past_beats, .inl (cI, 30, .inl f_past_beats)), (q_past_rhythms, .inl (cI, 30, .inl f_past_rhythms))] sz)) 0 0 (va_A [(q0, .inr (6, [.ref q_text, .ref q_past, .ref q_ear, .ref q_tilings, .ref q_mending, .ref q_images, .int v_beats, .int v_rhythm, .int v_draws, .int v_faultAt])), (q_past, .inr (3, [.ref q_past_beats, .ref q_past_rhythms, .int v_past_next, .int v_past_count])), (q_past_beats, .inl (cI, 30, .inl f_past_beats)), (q_past_rhythms, .inl (cI, 30, .inl f_past_rhythms))] sz) := by
  unfold wp_X9_even at h
  refine Met.ofW (cc := cX9_even) (maxL := 2) (ret := (some .int)) (by decide) rfl ?_
  intro p e s m args below meth c s₁ B hml hv
  obtain ⟨rfl, hsz, hP, hK, hD0, hN⟩ := hv
  have hx := B.exec
  have hb := B.bytes
  have hr := B.returns
  have hts := atoms_spec (ws := wsX9_even) B.pre
  have hown : s.vm.findClass RX9 = some m.cls := findClass_of_methodNamed B.named
  have hlocks := B.notSynchronized
  subst hsz
  have hD := hD0.self (sz := s.heap.size)
  generalize hAe : va_A [(q0, .inr (6, [.ref q_text, .ref q_past, .ref q_ear, .ref q_tilings, .ref q_mending, .ref q_images, .int v_beats, .int v_rhythm, .int v_draws, .int v_faultAt])), (q_past, .inr (3, [.ref q_past_beats, .ref q_past_rhythms, .int v_past_next, .int v_past_count])), (q_past_beats, .inl (cI, 30, .inl f_past_beats)), (q_past_rhythms, .inl (cI, 30, .inl f_past_rhythms))] s.heap.size = A at hD ⊢
  have hA : ∀ q : Nat, s.heap.size ≤ q → A q := fun q h => by rw [← hAe]; exact Or.inr h
  clear hAe
  have hS : va_S A s.heap s.heap [] := va_S.rf
  have w12 : ∀ (v_beats : Int32) (v_rhythm : Int32) (v_past_next : Int32) (v_past_count : Int32) (f_past_beats : (Nat → Int32)) (f_past_rhythms : (Nat → Int32)), wp_X9_even_j12 Q v_beats v_rhythm v_past_next v_past_count f_past_beats f_past_rhythms → ∀ (H : Heap) (locs : List Loc) (ls : Array Slot), va_P (dC, dI) vwCl [(q0, .inr (6, [.ref q_text, .ref q_past, .ref q_ear, .ref q_tilings, .ref q_mending, .ref q_images, .int v_beats, .int v_rhythm, .int v_draws, .int v_faultAt])), (q_past, .inr (3, [.ref q_past_beats, .ref q_past_rhythms, .int v_past_next, .int v_past_count])), (q_past_beats, .inl (cI, 30, .inl f_past_beats)), (q_past_rhythms, .inl (cI, 30, .inl f_past_rhythms))] H → va_D A [(q0, .inr (6, [.ref q_text, .ref q_past, .ref q_ear, .ref q_tilings, .ref q_mending, .ref q_images, .int v_beats, .int v_rhythm, .int v_draws, .int v_faultAt])), (q_past, .inr (3, [.ref q_past_beats, .ref q_past_rhythms, .int v_past_next, .int v_past_count])), (q_past_beats, .inl (cI, 30, .inl f_past_beats)), (q_past_rhythms, .inl (cI, 30, .inl f_past_rhythms))] → va_S A s.heap H locs → lv_has ls 2 [] → W p l e (headSpec wsX9_even (rmX9_even)).room s m ([.ref q0, .int p1] : List Value).toArray below meth c H locs 0 0 (MQ below (va_Qi (fun (r : Int32) (u : Int32 × Int32 × Int32 × Int32 × (Nat → Int32) × (Nat → Int32)) => Q r u.1 u.2.1 u.2.2.1 u.2.2.2.1 u.2.2.2.2.1 u.2.2.2.2.2) (fun (u : Int32 × Int32 × Int32 × Int32 × (Nat → Int32) × (Nat → Int32)) (t : State) => va_P (dC, dI) vwCl [(q0, .inr (6, [.ref q_text, .ref q_past, .ref q_ear, .ref q_tilings, .ref q_mending, .ref q_images, .int u.1, .int u.2.1, .int v_draws, .int v_faultAt])), (q_past, .inr (3, [.ref q_past_beats, .ref q_past_rhythms, .int u.2.2.1, .int u.2.2.2.1])), (q_past_beats, .inl (cI, 30, .inl u.2.2.2.2.1)), (q_past_rhythms, .inl (cI, 30, .inl u.2.2.2.2.2))] t.heap ∧ va_D A [(q0, .inr (6, [.ref q_text, .ref q_past, .ref q_ear, .ref q_tilings, .ref q_mending, .ref q_images, .int u.1, .int u.2.1, .int v_draws, .int v_faultAt])), (q_past, .inr (3, [.ref q_past_beats, .ref q_past_rhythms, .int u.2.2.1, .int u.2.2.2.1])), (q_past_beats, .inl (cI, 30, .inl u.2.2.2.2.1)), (q_past_rhythms, .inl (cI, 30, .inl u.2.2.2.2.2))]) A) ([.ref q0, .int p1] : List Value).toArray s 0 0 A) (F0 m 12 ls []) := by
    intro v_beats v_rhythm v_past_next v_past_count f_past_beats f_past_rhythms h H locs ls hP hD hS hl
    unfold wp_X9_even_j12 at h
    refine lv_ldc (v := (-1000000002)) hx hb hown (hts (.constant RX9 66 (-1000000002)) (by decide +kernel)) dX9_even_12 ?_
    exact W.iret (v := (-1000000002)) hx hb hr (fun t ht hW => ⟨⟨_, (v_beats, v_rhythm, v_past_next, v_past_count, f_past_beats, f_past_rhythms), rfl, h, by rw [ht]; exact hP, hD⟩, hS.F ht⟩) hS.2.2 dX9_even_14
  have hl := lv_entry ([.ref q0, .int p1]) (n := 2) (Nat.le_of_ble_eq_true rfl)
  rw [lg_entry_eq]
  generalize (lg_sl ([.ref q0, .int p1]) ++ List.replicate (2 - (lg_sl ([.ref q0, .int p1])).length) Slot.unset).toArray = ls at hl ⊢
  have hl : lv_has ls 2 [(0, .ref q0), (1, .int p1)] := hl
  refine lv_iload_n hx hb dX9_even_0 rfl (lv_at hl 1 rfl) ?_
  refine lv_if_lt (tgt := 12) hx hb dX9_even_1 (by decide) (fun c1 => ?_) (fun c1 => ?_)
  · replace h := h.1 c1
    exact w12 v_beats v_rhythm v_past_next v_past_count f_past_beats f_past_rhythms h s.heap [] ls hP hD hS (lv_sub hl [] rfl)
  · replace h := h.2 c1
    refine lv_iload_n hx hb dX9_even_4 rfl (lv_at hl 1 rfl) ?_
    refine lv_aload_n hx hb dX9_even_5 rfl (lv_at hl 0 rfl) ?_
    refine va_get (D := (dC, dI)) (ci := 6) (v := .int v_beats) (C := RX9) (T := TX9) (N := 10) hx hb hts iX9_even_X9 hown hK hP 0 rfl rfl 6 (by decide) (hts (.fieldLink RX9 53 "TilingBeats" "beats" "I") (by decide +kernel)) (fun _ h9 => h9) rfl dX9_even_6 ?_
    refine lv_icmp_le (tgt := 15) hx hb dX9_even_9 (by decide) (fun c2 => ?_) (fun c2 => ?_)
    · replace h := h.1 c2
      refine lv_aload_n hx hb dX9_even_15 rfl (lv_at hl 0 rfl) ?_
      refine lv_aload_n hx hb dX9_even_16 rfl (lv_at hl 0 rfl) ?_
      refine va_get (D := (dC, dI)) (ci := 6) (v := .int v_beats) (C := RX9) (T := TX9) (N := 10) hx hb hts iX9_even_X9 hown hK hP 0 rfl rfl 6 (by decide) (hts (.fieldLink RX9 53 "TilingBeats" "beats" "I") (by decide +kernel)) (fun _ h9 => h9) rfl dX9_even_17 ?_
      refine lv_aload_n hx hb dX9_even_20 rfl (lv_at hl 0 rfl) ?_
      refine va_get (D := (dC, dI)) (ci := 6) (v := .int v_beats) (C := RX9) (T := TX9) (N := 10) hx hb hts iX9_even_X9 hown hK hP 0 rfl rfl 6 (by decide) (hts (.fieldLink RX9 53 "TilingBeats" "beats" "I") (by decide +kernel)) (fun _ h9 => h9) rfl dX9_even_21 ?_
      refine lv_iload_n hx hb dX9_even_24 rfl (lv_at hl 1 rfl) ?_
      refine vs_calli (va_runSN (As := [.int v_beats, .int p1]) (rest := [.int v_beats, .ref q0]) ⟨hx, hb, hml, hown, hts⟩ (c_X6_evenly l v_beats p1 _ h) ⟨va_cnB 2 hts gX9_even_X6_evenly_n186 rfl rfl rfl (nw_34 hN) (hts (.initialized RX6) (by decide +kernel)) (by decide +kernel) ⟨Nat.le_of_ble_eq_true rfl, Nat.le_of_ble_eq_true rfl⟩, hts (.static yX6_evenly) (by decide +kernel), trivial⟩ ⟨fun a U g mk q => ⟨q.1, nW_call q.2⟩, fun U hU hW => ⟨rfl, nW_warm hW hN⟩⟩ rfl rfl hl.1 rfl (lv_room (Nat.le_of_ble_eq_true rfl)) dX9_even_25 ⟨Nat.le_of_ble_eq_true rfl, Nat.le_of_ble_eq_true rfl⟩) (fun r3 h => ?_)
      have hPc := hP.sub (ws' := [(q0, .inr (6, [.ref q_text, .ref q_past, .ref q_ear, .ref q_tilings, .ref q_mending, .ref q_images, .int v_beats, .int v_rhythm, .int v_draws, .int v_faultAt])), (q_past, .inr (3, [.ref q_past_beats, .ref q_past_rhythms, .int v_past_next, .int v_past_count])), (q_past_beats, .inl (cI, 30, .inl f_past_beats)), (q_past_rhythms, .inl (cI, 30, .inl f_past_rhythms))]) [0, 1, 2, 3] rfl
      have hDc := hD.sub (ws' := [(q0, .inr (6, [.ref q_text, .ref q_past, .ref q_ear, .ref q_tilings, .ref q_mending, .ref q_images, .int v_beats, .int v_rhythm, .int v_draws, .int v_faultAt])), (q_past, .inr (3, [.ref q_past_beats, .ref q_past_rhythms, .int v_past_next, .int v_past_count])), (q_past_beats, .inl (cI, 30, .inl f_past_beats)), (q_past_rhythms, .inl (cI, 30, .inl f_past_rhythms))]) [0, 1, 2, 3] (by decide) rfl
      have hFc := va_free (wc := [(q0, .inr (6, [.ref q_text, .ref q_past, .ref q_ear, .ref q_tilings, .ref q_mending, .ref q_images, .int v_beats, .int v_rhythm, .int v_draws, .int v_faultAt])), (q_past, .inr (3, [.ref q_past_beats, .ref q_past_rhythms, .int v_past_next, .int v_past_count])), (q_past_beats, .inl (cI, 30, .inl f_past_beats)), (q_past_rhythms, .inl (cI, 30, .inl f_past_rhythms))]) hD hS hA [0, 1, 2, 3] rfl
      refine va_calli (va_runV (As := [.int v_beats, .int r3]) (rest := []) ⟨hx, hb, hml, hown, hts⟩ (c_X9_change l dC dI cI cZ q0 q_text q_past q_ear q_tilings q_mending q_images q_past_beats q_past_rhythms s.heap.size v_beats v_rhythm v_draws v_faultAt v_past_next v_past_count f_past_beats f_past_rhythms v_beats r3 _ h) (cwV 2 hts gX9_even_X9_change rfl rfl rfl (by decide +kernel) ⟨Nat.le_of_ble_eq_true rfl, Nat.le_of_ble_eq_true rfl⟩) ⟨fun a U g mk q => ⟨q.1, q.2.1, q.2.2.1, va_K.moved (u := U) (U := U.calling g mk a) (Vm.Alike.refl U.vm) q.2.2.2.1, q.2.2.2.2.1, nW_call q.2.2.2.2.2⟩, va_recv hK hPc (ci := 6) (q0 := 0) rfl rfl, fun U hU hW => ⟨rfl, by rw [hU], by rw [hU]; exact hPc, va_K.moved hW.alike hK, hDc.weaken (fun _ _ _ _ => trivial), nW_warm hW hN⟩⟩ rfl rfl hl.1 rfl (lv_room (Nat.le_of_ble_eq_true rfl)) dX9_even_28 ⟨Nat.le_of_ble_eq_true rfl, Nat.le_of_ble_eq_true rfl⟩) hS (fun q _ h => hFc q h) hFc (fun r4 u t H1 locs ht hvm hw hB hz1 hk1 hS => ?_)
      obtain ⟨u5, u6, u7, u8, u9, u10⟩ := u
      obtain ⟨hP1, hD1⟩ := hB
      rw [ht] at hP1
      replace h := hw
      try dsimp only at h
      obtain ⟨hP, hD⟩ := va_join (wr := []) (w1 := [(q0, .inr (6, [.ref q_text, .ref q_past, .ref q_ear, .ref q_tilings, .ref q_mending, .ref q_images, .int u5, .int u6, .int v_draws, .int v_faultAt])), (q_past, .inr (3, [.ref q_past_beats, .ref q_past_rhythms, .int u7, .int u8])), (q_past_beats, .inl (cI, 30, .inl u9)), (q_past_rhythms, .inl (cI, 30, .inl u10))]) hP hD [0, 1, 2, 3] [] rfl rfl (by decide) (by decide) hk1 hFc hP1 hD1
      clear hP1 hD1 hFc hDc hPc hk1 hz1 hw hvm ht
      generalize H1 = H at hP hS ⊢
      have hP : va_P (dC, dI) vwCl [(q0, .inr (6, [.ref q_text, .ref q_past, .ref q_ear, .ref q_tilings, .ref q_mending, .ref q_images, .int u5, .int u6, .int v_draws, .int v_faultAt])), (q_past, .inr (3, [.ref q_past_beats, .ref q_past_rhythms, .int u7, .int u8])), (q_past_beats, .inl (cI, 30, .inl u9)), (q_past_rhythms, .inl (cI, 30, .inl u10))] H := hP.sub [0, 1, 2, 3] rfl
      have hD : va_D A [(q0, .inr (6, [.ref q_text, .ref q_past, .ref q_ear, .ref q_tilings, .ref q_mending, .ref q_images, .int u5, .int u6, .int v_draws, .int v_faultAt])), (q_past, .inr (3, [.ref q_past_beats, .ref q_past_rhythms, .int u7, .int u8])), (q_past_beats, .inl (cI, 30, .inl u9)), (q_past_rhythms, .inl (cI, 30, .inl u10))] := hD.sub [0, 1, 2, 3] (by decide) rfl
      exact W.iret (v := r4) hx hb hr (fun t ht hW => ⟨⟨_, (u5, u6, u7, u8, u9, u10), rfl, h, by rw [ht]; exact hP, hD⟩, hS.F ht⟩) hS.2.2 dX9_even_31
    · replace h := h.2 c2
      exact w12 v_beats v_rhythm v_past_next v_past_count f_past_beats f_past_rhythms h s.heap [] ls hP hD hS (lv_sub hl [] rfl)

def wp_X9_turn_j10 (Q : Int32 → Int32 → Int32 → Int32 → Int32 → (Nat → Int32) → (Nat → Int32) → Prop) (v_beats : Int32) (v_rhythm : Int32) (v_past_next : Int32) (v_past_count : Int32) (f_past_beats : (Nat → Int32)) (f_past_rhythms : (Nat → Int32)) : Prop := Q (-1000000002) v_beats v_rhythm v_past_next v_past_count f_past_beats f_past_rhythms
def wp_X9_turn (v_beats : Int32) (v_rhythm : Int32) (v_past_next : Int32) (v_past_count : Int32) (f_past_beats : (Nat → Int32)) (f_past_rhythms : (Nat → Int32)) (p1 : Int32) (Q : Int32 → Int32 → Int32 → Int32 → Int32 → (Nat → Int32) → (Nat → Int32) → Prop) : Prop := (p1 < 0 → (wp_X9_turn_j10 Q v_beats v_rhythm v_past_next v_past_count f_past_beats f_past_rhythms)) ∧ (¬ p1 < 0 → ((p1 ≤ 23 → (wp_X6_moved v_beats v_rhythm p1 fun (r3 : Int32) => wp_X9_change v_beats v_rhythm v_past_next v_past_count f_past_beats f_past_rhythms v_beats r3 fun (r4 : Int32) (u5 : Int32) (u6 : Int32) (u7 : Int32) (u8 : Int32) (u9 : (Nat → Int32)) (u10 : (Nat → Int32)) => Q r4 u5 u6 u7 u8 u9 u10)) ∧ (¬ p1 ≤ 23 → (wp_X9_turn_j10 Q v_beats v_rhythm v_past_next v_past_count f_past_beats f_past_rhythms))))
abbrev rmX9_turn : Room := { frames := 4, cells := 0, slots := 0, locals := 86 }
set_option maxRecDepth 20000 in
theorem iX9_turn_X9 : ∀ w ∈ wsX90, w ∈ wsX9_turn := by decide +kernel
set_option maxHeartbeats 4000000 in
set_option maxRecDepth 100000 in
theorem c_X9_turn (l : Launch) (dC : Nat → ClassId) (dI : Nat → Nat → Nat) (cI cZ : ClassId) (q0 q_text q_past q_ear q_tilings q_mending q_images q_past_beats q_past_rhythms : Nat) (sz : Nat) (v_beats : Int32) (v_rhythm : Int32) (v_draws : Int32) (v_faultAt : Int32) (v_past_next : Int32) (v_past_count : Int32) (f_past_beats : (Nat → Int32)) (f_past_rhythms : (Nat → Int32)) (p1 : Int32) (Q : Int32 → Int32 → Int32 → Int32 → Int32 → (Nat → Int32) → (Nat → Int32) → Prop) (h : wp_X9_turn v_beats v_rhythm v_past_next v_past_count f_past_beats f_past_rhythms p1 Q) : Met l yX9_turn wsX9_turn (rmX9_turn) (va_Pc [.ref q0, .int p1] (fun U => U.heap.size = sz ∧ va_P (dC, dI) vwCl [(q0, .inr (6, [.ref q_text, .ref q_past, .ref q_ear, .ref q_tilings, .ref q_mending, .ref q_images, .int v_beats, .int v_rhythm, .int v_draws, .int v_faultAt])), (q_past, .inr (3, [.ref q_past_beats, .ref q_past_rhythms, .int v_past_next, .int v_past_count])), (q_past_beats, .inl (cI, 30, .inl f_past_beats)), (q_past_rhythms, .inl (cI, 30, .inl f_past_rhythms))] U.heap ∧ va_K (dC, dI) vwCl (tyZ cI cZ) U ∧ va_D (fun _ => True) [(q0, .inr (6, [.ref q_text, .ref q_past, .ref q_ear, .ref q_tilings, .ref q_mending, .ref q_images, .int v_beats, .int v_rhythm, .int v_draws, .int v_faultAt])), (q_past, .inr (3, [.ref q_past_beats, .ref q_past_rhythms, .int v_past_next, .int v_past_count])), (q_past_beats, .inl (cI, 30, .inl f_past_beats)), (q_past_rhythms, .inl (cI, 30, .inl f_past_rhythms))] ∧ nW U)) (va_Qi (fun (r : Int32) (u : Int32 × Int32 × Int32 × Int32 × (Nat → Int32) × (Nat → Int32)) => Q r u.1 u.2.1 u.2.2.1 u.2.2.2.1 u.2.2.2.2.1 u.2.2.2.2.2) (fun (u : Int32 × Int32 × Int32 × Int32 × (Nat → Int32) × (Nat → Int32)) (t : State) => va_P (dC, dI) vwCl [(q0, .inr (6, [.ref q_text, .ref q_past, .ref q_ear, .ref q_tilings, .ref q_mending, .ref q_images, .int u.1, .int u.2.1, .int v_draws, .int v_faultAt])), (q_past, .inr (3, [.ref q_past_beats, .ref q_past_rhythms, .int u.2.2.1, .int u.2.2.2.1])), (q_past_beats, .inl (cI, 30, .inl u.2.2.2.2.1)), (q_past_rhythms, .inl (cI, 30, .inl u.2.2.2.2.2))] t.heap ∧ va_D (va_A [(q0, .inr (6, [.ref q_text, .ref q_past, .ref q_ear, .ref q_tilings, .ref q_mending, .ref q_images, .int v_beats, .int v_rhythm, .int v_draws, .int v_faultAt])), (q_past, .inr (3, [.ref q_past_beats, .ref q_past_rhythms, .int v_past_next, .int v_past_count])), (q_past_beats, .inl (cI, 30, .inl f_past_beats)), (q_past_rhythms, .inl (cI, 30, .inl f_past_rhythms))] sz) [(q0, .inr (6, [.ref q_text, .ref q_past, .ref q_ear, .ref q_tilings, .ref q_mending, .ref q_images, .int u.1, .int u.2.1, .int v_draws, .int v_faultAt])), (q_past, .inr (3, [.ref q_past_beats, .ref q_past_rhythms, .int u.2.2.1, .int u.2.2.2.1])), (q_past_beats, .inl (cI, 30, .inl u.2.2.2.2.1)), (q_past_rhythms, .inl (cI, 30, .inl u.2.2.2.2.2))]) (va_A [(q0, .inr (6, [.ref q_text, .ref q_past, .ref q_ear, .ref q_tilings, .ref q_mending, .ref q_images, .int v_beats, .int v_rhythm, .int v_draws, .int v_faultAt])), (q_past, .inr (3, [.ref q_past_beats, .ref q_past_rhythms, .int v_past_next, .int v_past_count])), (q_past_beats, .inl (cI, 30, .inl f_past_beats)), (q_past_rhythms, .inl (cI, 30, .inl f_past_rhythms))] sz)) 0 0 (va_A [(q0, .inr (6, [.ref q_text, .ref q_past, .ref q_ear, .ref q_tilings, .ref q_mending, .ref q_images, .int v_beats, .int v_rhythm, .int v_draws, .int v_faultAt])), (q_past, .inr (3, [.ref q_past_beats, .ref q_past_rhythms, .int v_past_next, .int v_past_count])), (q_past_beats, .inl (cI, 30, .inl f_past_beats)), (q_past_rhythms, .inl (cI, 30, .inl f_past_rhythms))] sz) := by
  unfold wp_X9_turn at h
  refine Met.ofW (cc := cX9_turn) (maxL := 2) (ret := (some .int)) (by decide) rfl ?_
  intro p e s m args below meth c s₁ B hml hv
  obtain ⟨rfl, hsz, hP, hK, hD0, hN⟩ := hv
  have hx := B.exec
  have hb := B.bytes
  have hr := B.returns
  have hts := atoms_spec (ws := wsX9_turn) B.pre
  have hown : s.vm.findClass RX9 = some m.cls := findClass_of_methodNamed B.named
  have hlocks := B.notSynchronized
  subst hsz
  have hD := hD0.self (sz := s.heap.size)
  generalize hAe : va_A [(q0, .inr (6, [.ref q_text, .ref q_past, .ref q_ear, .ref q_tilings, .ref q_mending, .ref q_images, .int v_beats, .int v_rhythm, .int v_draws, .int v_faultAt])), (q_past, .inr (3, [.ref q_past_beats, .ref q_past_rhythms, .int v_past_next, .int v_past_count])), (q_past_beats, .inl (cI, 30, .inl f_past_beats)), (q_past_rhythms, .inl (cI, 30, .inl f_past_rhythms))] s.heap.size = A at hD ⊢
  have hA : ∀ q : Nat, s.heap.size ≤ q → A q := fun q h => by rw [← hAe]; exact Or.inr h
  clear hAe
  have hS : va_S A s.heap s.heap [] := va_S.rf
  have w10 : ∀ (v_beats : Int32) (v_rhythm : Int32) (v_past_next : Int32) (v_past_count : Int32) (f_past_beats : (Nat → Int32)) (f_past_rhythms : (Nat → Int32)), wp_X9_turn_j10 Q v_beats v_rhythm v_past_next v_past_count f_past_beats f_past_rhythms → ∀ (H : Heap) (locs : List Loc) (ls : Array Slot), va_P (dC, dI) vwCl [(q0, .inr (6, [.ref q_text, .ref q_past, .ref q_ear, .ref q_tilings, .ref q_mending, .ref q_images, .int v_beats, .int v_rhythm, .int v_draws, .int v_faultAt])), (q_past, .inr (3, [.ref q_past_beats, .ref q_past_rhythms, .int v_past_next, .int v_past_count])), (q_past_beats, .inl (cI, 30, .inl f_past_beats)), (q_past_rhythms, .inl (cI, 30, .inl f_past_rhythms))] H → va_D A [(q0, .inr (6, [.ref q_text, .ref q_past, .ref q_ear, .ref q_tilings, .ref q_mending, .ref q_images, .int v_beats, .int v_rhythm, .int v_draws, .int v_faultAt])), (q_past, .inr (3, [.ref q_past_beats, .ref q_past_rhythms, .int v_past_next, .int v_past_count])), (q_past_beats, .inl (cI, 30, .inl f_past_beats)), (q_past_rhythms, .inl (cI, 30, .inl f_past_rhythms))] → va_S A s.heap H locs → lv_has ls 2 [] → W p l e (headSpec wsX9_turn (rmX9_turn)).room s m ([.ref q0, .int p1] : List Value).toArray below meth c H locs 0 0 (MQ below (va_Qi (fun (r : Int32) (u : Int32 × Int32 × Int32 × Int32 × (Nat → Int32) × (Nat → Int32)) => Q r u.1 u.2.1 u.2.2.1 u.2.2.2.1 u.2.2.2.2.1 u.2.2.2.2.2) (fun (u : Int32 × Int32 × Int32 × Int32 × (Nat → Int32) × (Nat → Int32)) (t : State) => va_P (dC, dI) vwCl [(q0, .inr (6, [.ref q_text, .ref q_past, .ref q_ear, .ref q_tilings, .ref q_mending, .ref q_images, .int u.1, .int u.2.1, .int v_draws, .int v_faultAt])), (q_past, .inr (3, [.ref q_past_beats, .ref q_past_rhythms, .int u.2.2.1, .int u.2.2.2.1])), (q_past_beats, .inl (cI, 30, .inl u.2.2.2.2.1)), (q_past_rhythms, .inl (cI, 30, .inl u.2.2.2.2.2))] t.heap ∧ va_D A [(q0, .inr (6, [.ref q_text, .ref q_past, .ref q_ear, .ref q_tilings, .ref q_mending, .ref q_images, .int u.1, .int u.2.1, .int v_draws, .int v_faultAt])), (q_past, .inr (3, [.ref q_past_beats, .ref q_past_rhythms, .int u.2.2.1, .int u.2.2.2.1])), (q_past_beats, .inl (cI, 30, .inl u.2.2.2.2.1)), (q_past_rhythms, .inl (cI, 30, .inl u.2.2.2.2.2))]) A) ([.ref q0, .int p1] : List Value).toArray s 0 0 A) (F0 m 10 ls []) := by
    intro v_beats v_rhythm v_past_next v_past_count f_past_beats f_past_rhythms h H locs ls hP hD hS hl
    unfold wp_X9_turn_j10 at h
    refine lv_ldc (v := (-1000000002)) hx hb hown (hts (.constant RX9 66 (-1000000002)) (by decide +kernel)) dX9_turn_10 ?_
    exact W.iret (v := (-1000000002)) hx hb hr (fun t ht hW => ⟨⟨_, (v_beats, v_rhythm, v_past_next, v_past_count, f_past_beats, f_past_rhythms), rfl, h, by rw [ht]; exact hP, hD⟩, hS.F ht⟩) hS.2.2 dX9_turn_12
  have hl := lv_entry ([.ref q0, .int p1]) (n := 2) (Nat.le_of_ble_eq_true rfl)
  rw [lg_entry_eq]
  generalize (lg_sl ([.ref q0, .int p1]) ++ List.replicate (2 - (lg_sl ([.ref q0, .int p1])).length) Slot.unset).toArray = ls at hl ⊢
  have hl : lv_has ls 2 [(0, .ref q0), (1, .int p1)] := hl
  refine lv_iload_n hx hb dX9_turn_0 rfl (lv_at hl 1 rfl) ?_
  refine lv_if_lt (tgt := 10) hx hb dX9_turn_1 (by decide) (fun c1 => ?_) (fun c1 => ?_)
  · replace h := h.1 c1
    exact w10 v_beats v_rhythm v_past_next v_past_count f_past_beats f_past_rhythms h s.heap [] ls hP hD hS (lv_sub hl [] rfl)
  · replace h := h.2 c1
    refine lv_iload_n hx hb dX9_turn_4 rfl (lv_at hl 1 rfl) ?_
    refine lv_bipush (v := 23) hx hb dX9_turn_5 (by decide) ?_
    refine lv_icmp_le (tgt := 13) hx hb dX9_turn_7 (by decide) (fun c2 => ?_) (fun c2 => ?_)
    · replace h := h.1 c2
      refine lv_aload_n hx hb dX9_turn_13 rfl (lv_at hl 0 rfl) ?_
      refine lv_aload_n hx hb dX9_turn_14 rfl (lv_at hl 0 rfl) ?_
      refine va_get (D := (dC, dI)) (ci := 6) (v := .int v_beats) (C := RX9) (T := TX9) (N := 10) hx hb hts iX9_turn_X9 hown hK hP 0 rfl rfl 6 (by decide) (hts (.fieldLink RX9 53 "TilingBeats" "beats" "I") (by decide +kernel)) (fun _ h9 => h9) rfl dX9_turn_15 ?_
      refine lv_aload_n hx hb dX9_turn_18 rfl (lv_at hl 0 rfl) ?_
      refine va_get (D := (dC, dI)) (ci := 6) (v := .int v_beats) (C := RX9) (T := TX9) (N := 10) hx hb hts iX9_turn_X9 hown hK hP 0 rfl rfl 6 (by decide) (hts (.fieldLink RX9 53 "TilingBeats" "beats" "I") (by decide +kernel)) (fun _ h9 => h9) rfl dX9_turn_19 ?_
      refine lv_aload_n hx hb dX9_turn_22 rfl (lv_at hl 0 rfl) ?_
      refine va_get (D := (dC, dI)) (ci := 6) (v := .int v_rhythm) (C := RX9) (T := TX9) (N := 10) hx hb hts iX9_turn_X9 hown hK hP 0 rfl rfl 7 (by decide) (hts (.fieldLink RX9 57 "TilingBeats" "rhythm" "I") (by decide +kernel)) (fun _ h9 => h9) rfl dX9_turn_23 ?_
      refine lv_iload_n hx hb dX9_turn_26 rfl (lv_at hl 1 rfl) ?_
      refine vs_calli (va_runSN (As := [.int v_beats, .int v_rhythm, .int p1]) (rest := [.int v_beats, .ref q0]) ⟨hx, hb, hml, hown, hts⟩ (c_X6_moved l v_beats v_rhythm p1 _ h) ⟨va_cnB 3 hts gX9_turn_X6_moved_n152 rfl rfl rfl (nw_46 hN) (hts (.initialized RX6) (by decide +kernel)) (by decide +kernel) ⟨Nat.le_of_ble_eq_true rfl, Nat.le_of_ble_eq_true rfl⟩, hts (.static yX6_moved) (by decide +kernel), trivial⟩ ⟨fun a U g mk q => ⟨q.1, nW_call q.2⟩, fun U hU hW => ⟨rfl, nW_warm hW hN⟩⟩ rfl rfl hl.1 rfl (lv_room (Nat.le_of_ble_eq_true rfl)) dX9_turn_27 ⟨Nat.le_of_ble_eq_true rfl, Nat.le_of_ble_eq_true rfl⟩) (fun r3 h => ?_)
      have hPc := hP.sub (ws' := [(q0, .inr (6, [.ref q_text, .ref q_past, .ref q_ear, .ref q_tilings, .ref q_mending, .ref q_images, .int v_beats, .int v_rhythm, .int v_draws, .int v_faultAt])), (q_past, .inr (3, [.ref q_past_beats, .ref q_past_rhythms, .int v_past_next, .int v_past_count])), (q_past_beats, .inl (cI, 30, .inl f_past_beats)), (q_past_rhythms, .inl (cI, 30, .inl f_past_rhythms))]) [0, 1, 2, 3] rfl
      have hDc := hD.sub (ws' := [(q0, .inr (6, [.ref q_text, .ref q_past, .ref q_ear, .ref q_tilings, .ref q_mending, .ref q_images, .int v_beats, .int v_rhythm, .int v_draws, .int v_faultAt])), (q_past, .inr (3, [.ref q_past_beats, .ref q_past_rhythms, .int v_past_next, .int v_past_count])), (q_past_beats, .inl (cI, 30, .inl f_past_beats)), (q_past_rhythms, .inl (cI, 30, .inl f_past_rhythms))]) [0, 1, 2, 3] (by decide) rfl
      have hFc := va_free (wc := [(q0, .inr (6, [.ref q_text, .ref q_past, .ref q_ear, .ref q_tilings, .ref q_mending, .ref q_images, .int v_beats, .int v_rhythm, .int v_draws, .int v_faultAt])), (q_past, .inr (3, [.ref q_past_beats, .ref q_past_rhythms, .int v_past_next, .int v_past_count])), (q_past_beats, .inl (cI, 30, .inl f_past_beats)), (q_past_rhythms, .inl (cI, 30, .inl f_past_rhythms))]) hD hS hA [0, 1, 2, 3] rfl
      refine va_calli (va_runV (As := [.int v_beats, .int r3]) (rest := []) ⟨hx, hb, hml, hown, hts⟩ (c_X9_change l dC dI cI cZ q0 q_text q_past q_ear q_tilings q_mending q_images q_past_beats q_past_rhythms s.heap.size v_beats v_rhythm v_draws v_faultAt v_past_next v_past_count f_past_beats f_past_rhythms v_beats r3 _ h) (cwV 2 hts gX9_turn_X9_change rfl rfl rfl (by decide +kernel) ⟨Nat.le_of_ble_eq_true rfl, Nat.le_of_ble_eq_true rfl⟩) ⟨fun a U g mk q => ⟨q.1, q.2.1, q.2.2.1, va_K.moved (u := U) (U := U.calling g mk a) (Vm.Alike.refl U.vm) q.2.2.2.1, q.2.2.2.2.1, nW_call q.2.2.2.2.2⟩, va_recv hK hPc (ci := 6) (q0 := 0) rfl rfl, fun U hU hW => ⟨rfl, by rw [hU], by rw [hU]; exact hPc, va_K.moved hW.alike hK, hDc.weaken (fun _ _ _ _ => trivial), nW_warm hW hN⟩⟩ rfl rfl hl.1 rfl (lv_room (Nat.le_of_ble_eq_true rfl)) dX9_turn_30 ⟨Nat.le_of_ble_eq_true rfl, Nat.le_of_ble_eq_true rfl⟩) hS (fun q _ h => hFc q h) hFc (fun r4 u t H1 locs ht hvm hw hB hz1 hk1 hS => ?_)
      obtain ⟨u5, u6, u7, u8, u9, u10⟩ := u
      obtain ⟨hP1, hD1⟩ := hB
      rw [ht] at hP1
      replace h := hw
      try dsimp only at h
      obtain ⟨hP, hD⟩ := va_join (wr := []) (w1 := [(q0, .inr (6, [.ref q_text, .ref q_past, .ref q_ear, .ref q_tilings, .ref q_mending, .ref q_images, .int u5, .int u6, .int v_draws, .int v_faultAt])), (q_past, .inr (3, [.ref q_past_beats, .ref q_past_rhythms, .int u7, .int u8])), (q_past_beats, .inl (cI, 30, .inl u9)), (q_past_rhythms, .inl (cI, 30, .inl u10))]) hP hD [0, 1, 2, 3] [] rfl rfl (by decide) (by decide) hk1 hFc hP1 hD1
      clear hP1 hD1 hFc hDc hPc hk1 hz1 hw hvm ht
      generalize H1 = H at hP hS ⊢
      have hP : va_P (dC, dI) vwCl [(q0, .inr (6, [.ref q_text, .ref q_past, .ref q_ear, .ref q_tilings, .ref q_mending, .ref q_images, .int u5, .int u6, .int v_draws, .int v_faultAt])), (q_past, .inr (3, [.ref q_past_beats, .ref q_past_rhythms, .int u7, .int u8])), (q_past_beats, .inl (cI, 30, .inl u9)), (q_past_rhythms, .inl (cI, 30, .inl u10))] H := hP.sub [0, 1, 2, 3] rfl
      have hD : va_D A [(q0, .inr (6, [.ref q_text, .ref q_past, .ref q_ear, .ref q_tilings, .ref q_mending, .ref q_images, .int u5, .int u6, .int v_draws, .int v_faultAt])), (q_past, .inr (3, [.ref q_past_beats, .ref q_past_rhythms, .int u7, .int u8])), (q_past_beats, .inl (cI, 30, .inl u9)), (q_past_rhythms, .inl (cI, 30, .inl u10))] := hD.sub [0, 1, 2, 3] (by decide) rfl
      exact W.iret (v := r4) hx hb hr (fun t ht hW => ⟨⟨_, (u5, u6, u7, u8, u9, u10), rfl, h, by rw [ht]; exact hP, hD⟩, hS.F ht⟩) hS.2.2 dX9_turn_33
    · replace h := h.2 c2
      exact w10 v_beats v_rhythm v_past_next v_past_count f_past_beats f_past_rhythms h s.heap [] ls hP hD hS (lv_sub hl [] rfl)

def wp_X9_over (v_beats : Int32) (v_rhythm : Int32) (v_past_next : Int32) (v_past_count : Int32) (f_past_beats : (Nat → Int32)) (f_past_rhythms : (Nat → Int32)) (Q : Int32 → Int32 → Int32 → Int32 → Int32 → (Nat → Int32) → (Nat → Int32) → Prop) : Prop := wp_X6_inverted v_beats v_rhythm fun (r1 : Int32) => wp_X9_change v_beats v_rhythm v_past_next v_past_count f_past_beats f_past_rhythms v_beats r1 fun (r2 : Int32) (u3 : Int32) (u4 : Int32) (u5 : Int32) (u6 : Int32) (u7 : (Nat → Int32)) (u8 : (Nat → Int32)) => Q r2 u3 u4 u5 u6 u7 u8
abbrev rmX9_over : Room := { frames := 4, cells := 0, slots := 0, locals := 86 }
set_option maxRecDepth 20000 in
theorem iX9_over_X9 : ∀ w ∈ wsX90, w ∈ wsX9_over := by decide +kernel
set_option maxHeartbeats 4000000 in
set_option maxRecDepth 100000 in
theorem c_X9_over (l : Launch) (dC : Nat → ClassId) (dI : Nat → Nat → Nat) (cI cZ : ClassId) (q0 q_text q_past q_ear q_tilings q_mending q_images q_past_beats q_past_rhythms : Nat) (sz : Nat) (v_beats : Int32) (v_rhythm : Int32) (v_draws : Int32) (v_faultAt : Int32) (v_past_next : Int32) (v_past_count : Int32) (f_past_beats : (Nat → Int32)) (f_past_rhythms : (Nat → Int32))  (Q : Int32 → Int32 → Int32 → Int32 → Int32 → (Nat → Int32) → (Nat → Int32) → Prop) (h : wp_X9_over v_beats v_rhythm v_past_next v_past_count f_past_beats f_past_rhythms Q) : Met l yX9_over wsX9_over (rmX9_over) (va_Pc [.ref q0] (fun U => U.heap.size = sz ∧ va_P (dC, dI) vwCl [(q0, .inr (6, [.ref q_text, .ref q_past, .ref q_ear, .ref q_tilings, .ref q_mending, .ref q_images, .int v_beats, .int v_rhythm, .int v_draws, .int v_faultAt])), (q_past, .inr (3, [.ref q_past_beats, .ref q_past_rhythms, .int v_past_next, .int v_past_count])), (q_past_beats, .inl (cI, 30, .inl f_past_beats)), (q_past_rhythms, .inl (cI, 30, .inl f_past_rhythms))] U.heap ∧ va_K (dC, dI) vwCl (tyZ cI cZ) U ∧ va_D (fun _ => True) [(q0, .inr (6, [.ref q_text, .ref q_past, .ref q_ear, .ref q_tilings, .ref q_mending, .ref q_images, .int v_beats, .int v_rhythm, .int v_draws, .int v_faultAt])), (q_past, .inr (3, [.ref q_past_beats, .ref q_past_rhythms, .int v_past_next, .int v_past_count])), (q_past_beats, .inl (cI, 30, .inl f_past_beats)), (q_past_rhythms, .inl (cI, 30, .inl f_past_rhythms))] ∧ nW U)) (va_Qi (fun (r : Int32) (u : Int32 × Int32 × Int32 × Int32 × (Nat → Int32) × (Nat → Int32)) => Q r u.1 u.2.1 u.2.2.1 u.2.2.2.1 u.2.2.2.2.1 u.2.2.2.2.2) (fun (u : Int32 × Int32 × Int32 × Int32 × (Nat → Int32) × (Nat → Int32)) (t : State) => va_P (dC, dI) vwCl [(q0, .inr (6, [.ref q_text, .ref q_past, .ref q_ear, .ref q_tilings, .ref q_mending, .ref q_images, .int u.1, .int u.2.1, .int v_draws, .int v_faultAt])), (q_past, .inr (3, [.ref q_past_beats, .ref q_past_rhythms, .int u.2.2.1, .int u.2.2.2.1])), (q_past_beats, .inl (cI, 30, .inl u.2.2.2.2.1)), (q_past_rhythms, .inl (cI, 30, .inl u.2.2.2.2.2))] t.heap ∧ va_D (va_A [(q0, .inr (6, [.ref q_text, .ref q_past, .ref q_ear, .ref q_tilings, .ref q_mending, .ref q_images, .int v_beats, .int v_rhythm, .int v_draws, .int v_faultAt])), (q_past, .inr (3, [.ref q_past_beats, .ref q_past_rhythms, .int v_past_next, .int v_past_count])), (q_past_beats, .inl (cI, 30, .inl f_past_beats)), (q_past_rhythms, .inl (cI, 30, .inl f_past_rhythms))] sz) [(q0, .inr (6, [.ref q_text, .ref q_past, .ref q_ear, .ref q_tilings, .ref q_mending, .ref q_images, .int u.1, .int u.2.1, .int v_draws, .int v_faultAt])), (q_past, .inr (3, [.ref q_past_beats, .ref q_past_rhythms, .int u.2.2.1, .int u.2.2.2.1])), (q_past_beats, .inl (cI, 30, .inl u.2.2.2.2.1)), (q_past_rhythms, .inl (cI, 30, .inl u.2.2.2.2.2))]) (va_A [(q0, .inr (6, [.ref q_text, .ref q_past, .ref q_ear, .ref q_tilings, .ref q_mending, .ref q_images, .int v_beats, .int v_rhythm, .int v_draws, .int v_faultAt])), (q_past, .inr (3, [.ref q_past_beats, .ref q_past_rhythms, .int v_past_next, .int v_past_count])), (q_past_beats, .inl (cI, 30, .inl f_past_beats)), (q_past_rhythms, .inl (cI, 30, .inl f_past_rhythms))] sz)) 0 0 (va_A [(q0, .inr (6, [.ref q_text, .ref q_past, .ref q_ear, .ref q_tilings, .ref q_mending, .ref q_images, .int v_beats, .int v_rhythm, .int v_draws, .int v_faultAt])), (q_past, .inr (3, [.ref q_past_beats, .ref q_past_rhythms, .int v_past_next, .int v_past_count])), (q_past_beats, .inl (cI, 30, .inl f_past_beats)), (q_past_rhythms, .inl (cI, 30, .inl f_past_rhythms))] sz) := by
  unfold wp_X9_over at h
  refine Met.ofW (cc := cX9_over) (maxL := 1) (ret := (some .int)) (by decide) rfl ?_
  intro p e s m args below meth c s₁ B hml hv
  obtain ⟨rfl, hsz, hP, hK, hD0, hN⟩ := hv
  have hx := B.exec
  have hb := B.bytes
  have hr := B.returns
  have hts := atoms_spec (ws := wsX9_over) B.pre
  have hown : s.vm.findClass RX9 = some m.cls := findClass_of_methodNamed B.named
  have hlocks := B.notSynchronized
  subst hsz
  have hD := hD0.self (sz := s.heap.size)
  generalize hAe : va_A [(q0, .inr (6, [.ref q_text, .ref q_past, .ref q_ear, .ref q_tilings, .ref q_mending, .ref q_images, .int v_beats, .int v_rhythm, .int v_draws, .int v_faultAt])), (q_past, .inr (3, [.ref q_past_beats, .ref q_past_rhythms, .int v_past_next, .int v_past_count])), (q_past_beats, .inl (cI, 30, .inl f_past_beats)), (q_past_rhythms, .inl (cI, 30, .inl f_past_rhythms))] s.heap.size = A at hD ⊢
  have hA : ∀ q : Nat, s.heap.size ≤ q → A q := fun q h => by rw [← hAe]; exact Or.inr h
  clear hAe
  have hS : va_S A s.heap s.heap [] := va_S.rf
  have hl := lv_entry ([.ref q0]) (n := 1) (Nat.le_of_ble_eq_true rfl)
  rw [lg_entry_eq]
  generalize (lg_sl ([.ref q0]) ++ List.replicate (1 - (lg_sl ([.ref q0])).length) Slot.unset).toArray = ls at hl ⊢
  have hl : lv_has ls 1 [(0, .ref q0)] := hl
  refine lv_aload_n hx hb dX9_over_0 rfl (lv_at hl 0 rfl) ?_
  refine lv_aload_n hx hb dX9_over_1 rfl (lv_at hl 0 rfl) ?_
  refine va_get (D := (dC, dI)) (ci := 6) (v := .int v_beats) (C := RX9) (T := TX9) (N := 10) hx hb hts iX9_over_X9 hown hK hP 0 rfl rfl 6 (by decide) (hts (.fieldLink RX9 53 "TilingBeats" "beats" "I") (by decide +kernel)) (fun _ h9 => h9) rfl dX9_over_2 ?_
  refine lv_aload_n hx hb dX9_over_5 rfl (lv_at hl 0 rfl) ?_
  refine va_get (D := (dC, dI)) (ci := 6) (v := .int v_beats) (C := RX9) (T := TX9) (N := 10) hx hb hts iX9_over_X9 hown hK hP 0 rfl rfl 6 (by decide) (hts (.fieldLink RX9 53 "TilingBeats" "beats" "I") (by decide +kernel)) (fun _ h9 => h9) rfl dX9_over_6 ?_
  refine lv_aload_n hx hb dX9_over_9 rfl (lv_at hl 0 rfl) ?_
  refine va_get (D := (dC, dI)) (ci := 6) (v := .int v_rhythm) (C := RX9) (T := TX9) (N := 10) hx hb hts iX9_over_X9 hown hK hP 0 rfl rfl 7 (by decide) (hts (.fieldLink RX9 57 "TilingBeats" "rhythm" "I") (by decide +kernel)) (fun _ h9 => h9) rfl dX9_over_10 ?_
  refine vs_calli (va_runSN (As := [.int v_beats, .int v_rhythm]) (rest := [.int v_beats, .ref q0]) ⟨hx, hb, hml, hown, hts⟩ (c_X6_inverted l v_beats v_rhythm _ h) ⟨va_cnB 2 hts gX9_over_X6_inverted_n173 rfl rfl rfl (nw_51 hN) (hts (.initialized RX6) (by decide +kernel)) (by decide +kernel) ⟨Nat.le_of_ble_eq_true rfl, Nat.le_of_ble_eq_true rfl⟩, hts (.static yX6_inverted) (by decide +kernel), trivial⟩ ⟨fun a U g mk q => ⟨q.1, nW_call q.2⟩, fun U hU hW => ⟨rfl, nW_warm hW hN⟩⟩ rfl rfl hl.1 rfl (lv_room (Nat.le_of_ble_eq_true rfl)) dX9_over_13 ⟨Nat.le_of_ble_eq_true rfl, Nat.le_of_ble_eq_true rfl⟩) (fun r1 h => ?_)
  have hPc := hP.sub (ws' := [(q0, .inr (6, [.ref q_text, .ref q_past, .ref q_ear, .ref q_tilings, .ref q_mending, .ref q_images, .int v_beats, .int v_rhythm, .int v_draws, .int v_faultAt])), (q_past, .inr (3, [.ref q_past_beats, .ref q_past_rhythms, .int v_past_next, .int v_past_count])), (q_past_beats, .inl (cI, 30, .inl f_past_beats)), (q_past_rhythms, .inl (cI, 30, .inl f_past_rhythms))]) [0, 1, 2, 3] rfl
  have hDc := hD.sub (ws' := [(q0, .inr (6, [.ref q_text, .ref q_past, .ref q_ear, .ref q_tilings, .ref q_mending, .ref q_images, .int v_beats, .int v_rhythm, .int v_draws, .int v_faultAt])), (q_past, .inr (3, [.ref q_past_beats, .ref q_past_rhythms, .int v_past_next, .int v_past_count])), (q_past_beats, .inl (cI, 30, .inl f_past_beats)), (q_past_rhythms, .inl (cI, 30, .inl f_past_rhythms))]) [0, 1, 2, 3] (by decide) rfl
  have hFc := va_free (wc := [(q0, .inr (6, [.ref q_text, .ref q_past, .ref q_ear, .ref q_tilings, .ref q_mending, .ref q_images, .int v_beats, .int v_rhythm, .int v_draws, .int v_faultAt])), (q_past, .inr (3, [.ref q_past_beats, .ref q_past_rhythms, .int v_past_next, .int v_past_count])), (q_past_beats, .inl (cI, 30, .inl f_past_beats)), (q_past_rhythms, .inl (cI, 30, .inl f_past_rhythms))]) hD hS hA [0, 1, 2, 3] rfl
  refine va_calli (va_runV (As := [.int v_beats, .int r1]) (rest := []) ⟨hx, hb, hml, hown, hts⟩ (c_X9_change l dC dI cI cZ q0 q_text q_past q_ear q_tilings q_mending q_images q_past_beats q_past_rhythms s.heap.size v_beats v_rhythm v_draws v_faultAt v_past_next v_past_count f_past_beats f_past_rhythms v_beats r1 _ h) (cwV 2 hts gX9_over_X9_change rfl rfl rfl (by decide +kernel) ⟨Nat.le_of_ble_eq_true rfl, Nat.le_of_ble_eq_true rfl⟩) ⟨fun a U g mk q => ⟨q.1, q.2.1, q.2.2.1, va_K.moved (u := U) (U := U.calling g mk a) (Vm.Alike.refl U.vm) q.2.2.2.1, q.2.2.2.2.1, nW_call q.2.2.2.2.2⟩, va_recv hK hPc (ci := 6) (q0 := 0) rfl rfl, fun U hU hW => ⟨rfl, by rw [hU], by rw [hU]; exact hPc, va_K.moved hW.alike hK, hDc.weaken (fun _ _ _ _ => trivial), nW_warm hW hN⟩⟩ rfl rfl hl.1 rfl (lv_room (Nat.le_of_ble_eq_true rfl)) dX9_over_16 ⟨Nat.le_of_ble_eq_true rfl, Nat.le_of_ble_eq_true rfl⟩) hS (fun q _ h => hFc q h) hFc (fun r2 u t H1 locs ht hvm hw hB hz1 hk1 hS => ?_)
  obtain ⟨u3, u4, u5, u6, u7, u8⟩ := u
  obtain ⟨hP1, hD1⟩ := hB
  rw [ht] at hP1
  replace h := hw
  try dsimp only at h
  obtain ⟨hP, hD⟩ := va_join (wr := []) (w1 := [(q0, .inr (6, [.ref q_text, .ref q_past, .ref q_ear, .ref q_tilings, .ref q_mending, .ref q_images, .int u3, .int u4, .int v_draws, .int v_faultAt])), (q_past, .inr (3, [.ref q_past_beats, .ref q_past_rhythms, .int u5, .int u6])), (q_past_beats, .inl (cI, 30, .inl u7)), (q_past_rhythms, .inl (cI, 30, .inl u8))]) hP hD [0, 1, 2, 3] [] rfl rfl (by decide) (by decide) hk1 hFc hP1 hD1
  clear hP1 hD1 hFc hDc hPc hk1 hz1 hw hvm ht
  generalize H1 = H at hP hS ⊢
  have hP : va_P (dC, dI) vwCl [(q0, .inr (6, [.ref q_text, .ref q_past, .ref q_ear, .ref q_tilings, .ref q_mending, .ref q_images, .int u3, .int u4, .int v_draws, .int v_faultAt])), (q_past, .inr (3, [.ref q_past_beats, .ref q_past_rhythms, .int u5, .int u6])), (q_past_beats, .inl (cI, 30, .inl u7)), (q_past_rhythms, .inl (cI, 30, .inl u8))] H := hP.sub [0, 1, 2, 3] rfl
  have hD : va_D A [(q0, .inr (6, [.ref q_text, .ref q_past, .ref q_ear, .ref q_tilings, .ref q_mending, .ref q_images, .int u3, .int u4, .int v_draws, .int v_faultAt])), (q_past, .inr (3, [.ref q_past_beats, .ref q_past_rhythms, .int u5, .int u6])), (q_past_beats, .inl (cI, 30, .inl u7)), (q_past_rhythms, .inl (cI, 30, .inl u8))] := hD.sub [0, 1, 2, 3] (by decide) rfl
  exact W.iret (v := r2) hx hb hr (fun t ht hW => ⟨⟨_, (u3, u4, u5, u6, u7, u8), rfl, h, by rw [ht]; exact hP, hD⟩, hS.F ht⟩) hS.2.2 dX9_over_19

def wp_X9_behind (v_beats : Int32) (v_rhythm : Int32) (v_past_next : Int32) (v_past_count : Int32) (f_past_beats : (Nat → Int32)) (f_past_rhythms : (Nat → Int32)) (Q : Int32 → Int32 → Int32 → Int32 → Int32 → (Nat → Int32) → (Nat → Int32) → Prop) : Prop := wp_X6_mirrored v_beats v_rhythm fun (r1 : Int32) => wp_X9_change v_beats v_rhythm v_past_next v_past_count f_past_beats f_past_rhythms v_beats r1 fun (r2 : Int32) (u3 : Int32) (u4 : Int32) (u5 : Int32) (u6 : Int32) (u7 : (Nat → Int32)) (u8 : (Nat → Int32)) => Q r2 u3 u4 u5 u6 u7 u8
abbrev rmX9_behind : Room := { frames := 4, cells := 0, slots := 0, locals := 86 }
set_option maxRecDepth 20000 in
theorem iX9_behind_X9 : ∀ w ∈ wsX90, w ∈ wsX9_behind := by decide +kernel
set_option maxHeartbeats 4000000 in
set_option maxRecDepth 100000 in
theorem c_X9_behind (l : Launch) (dC : Nat → ClassId) (dI : Nat → Nat → Nat) (cI cZ : ClassId) (q0 q_text q_past q_ear q_tilings q_mending q_images q_past_beats q_past_rhythms : Nat) (sz : Nat) (v_beats : Int32) (v_rhythm : Int32) (v_draws : Int32) (v_faultAt : Int32) (v_past_next : Int32) (v_past_count : Int32) (f_past_beats : (Nat → Int32)) (f_past_rhythms : (Nat → Int32))  (Q : Int32 → Int32 → Int32 → Int32 → Int32 → (Nat → Int32) → (Nat → Int32) → Prop) (h : wp_X9_behind v_beats v_rhythm v_past_next v_past_count f_past_beats f_past_rhythms Q) : Met l yX9_behind wsX9_behind (rmX9_behind) (va_Pc [.ref q0] (fun U => U.heap.size = sz ∧ va_P (dC, dI) vwCl [(q0, .inr (6, [.ref q_text, .ref q_past, .ref q_ear, .ref q_tilings, .ref q_mending, .ref q_images, .int v_beats, .int v_rhythm, .int v_draws, .int v_faultAt])), (q_past, .inr (3, [.ref q_past_beats, .ref q_past_rhythms, .int v_past_next, .int v_past_count])), (q_past_beats, .inl (cI, 30, .inl f_past_beats)), (q_past_rhythms, .inl (cI, 30, .inl f_past_rhythms))] U.heap ∧ va_K (dC, dI) vwCl (tyZ cI cZ) U ∧ va_D (fun _ => True) [(q0, .inr (6, [.ref q_text, .ref q_past, .ref q_ear, .ref q_tilings, .ref q_mending, .ref q_images, .int v_beats, .int v_rhythm, .int v_draws, .int v_faultAt])), (q_past, .inr (3, [.ref q_past_beats, .ref q_past_rhythms, .int v_past_next, .int v_past_count])), (q_past_beats, .inl (cI, 30, .inl f_past_beats)), (q_past_rhythms, .inl (cI, 30, .inl f_past_rhythms))] ∧ nW U)) (va_Qi (fun (r : Int32) (u : Int32 × Int32 × Int32 × Int32 × (Nat → Int32) × (Nat → Int32)) => Q r u.1 u.2.1 u.2.2.1 u.2.2.2.1 u.2.2.2.2.1 u.2.2.2.2.2) (fun (u : Int32 × Int32 × Int32 × Int32 × (Nat → Int32) × (Nat → Int32)) (t : State) => va_P (dC, dI) vwCl [(q0, .inr (6, [.ref q_text, .ref q_past, .ref q_ear, .ref q_tilings, .ref q_mending, .ref q_images, .int u.1, .int u.2.1, .int v_draws, .int v_faultAt])), (q_past, .inr (3, [.ref q_past_beats, .ref q_past_rhythms, .int u.2.2.1, .int u.2.2.2.1])), (q_past_beats, .inl (cI, 30, .inl u.2.2.2.2.1)), (q_past_rhythms, .inl (cI, 30, .inl u.2.2.2.2.2))] t.heap ∧ va_D (va_A [(q0, .inr (6, [.ref q_text, .ref q_past, .ref q_ear, .ref q_tilings, .ref q_mending, .ref q_images, .int v_beats, .int v_rhythm, .int v_draws, .int v_faultAt])), (q_past, .inr (3, [.ref q_past_beats, .ref q_past_rhythms, .int v_past_next, .int v_past_count])), (q_past_beats, .inl (cI, 30, .inl f_past_beats)), (q_past_rhythms, .inl (cI, 30, .inl f_past_rhythms))] sz) [(q0, .inr (6, [.ref q_text, .ref q_past, .ref q_ear, .ref q_tilings, .ref q_mending, .ref q_images, .int u.1, .int u.2.1, .int v_draws, .int v_faultAt])), (q_past, .inr (3, [.ref q_past_beats, .ref q_past_rhythms, .int u.2.2.1, .int u.2.2.2.1])), (q_past_beats, .inl (cI, 30, .inl u.2.2.2.2.1)), (q_past_rhythms, .inl (cI, 30, .inl u.2.2.2.2.2))]) (va_A [(q0, .inr (6, [.ref q_text, .ref q_past, .ref q_ear, .ref q_tilings, .ref q_mending, .ref q_images, .int v_beats, .int v_rhythm, .int v_draws, .int v_faultAt])), (q_past, .inr (3, [.ref q_past_beats, .ref q_past_rhythms, .int v_past_next, .int v_past_count])), (q_past_beats, .inl (cI, 30, .inl f_past_beats)), (q_past_rhythms, .inl (cI, 30, .inl f_past_rhythms))] sz)) 0 0 (va_A [(q0, .inr (6, [.ref q_text, .ref q_past, .ref q_ear, .ref q_tilings, .ref q_mending, .ref q_images, .int v_beats, .int v_rhythm, .int v_draws, .int v_faultAt])), (q_past, .inr (3, [.ref q_past_beats, .ref q_past_rhythms, .int v_past_next, .int v_past_count])), (q_past_beats, .inl (cI, 30, .inl f_past_beats)), (q_past_rhythms, .inl (cI, 30, .inl f_past_rhythms))] sz) := by
  unfold wp_X9_behind at h
  refine Met.ofW (cc := cX9_behind) (maxL := 1) (ret := (some .int)) (by decide) rfl ?_
  intro p e s m args below meth c s₁ B hml hv
  obtain ⟨rfl, hsz, hP, hK, hD0, hN⟩ := hv
  have hx := B.exec
  have hb := B.bytes
  have hr := B.returns
  have hts := atoms_spec (ws := wsX9_behind) B.pre
  have hown : s.vm.findClass RX9 = some m.cls := findClass_of_methodNamed B.named
  have hlocks := B.notSynchronized
  subst hsz
  have hD := hD0.self (sz := s.heap.size)
  generalize hAe : va_A [(q0, .inr (6, [.ref q_text, .ref q_past, .ref q_ear, .ref q_tilings, .ref q_mending, .ref q_images, .int v_beats, .int v_rhythm, .int v_draws, .int v_faultAt])), (q_past, .inr (3, [.ref q_past_beats, .ref q_past_rhythms, .int v_past_next, .int v_past_count])), (q_past_beats, .inl (cI, 30, .inl f_past_beats)), (q_past_rhythms, .inl (cI, 30, .inl f_past_rhythms))] s.heap.size = A at hD ⊢
  have hA : ∀ q : Nat, s.heap.size ≤ q → A q := fun q h => by rw [← hAe]; exact Or.inr h
  clear hAe
  have hS : va_S A s.heap s.heap [] := va_S.rf
  have hl := lv_entry ([.ref q0]) (n := 1) (Nat.le_of_ble_eq_true rfl)
  rw [lg_entry_eq]
  generalize (lg_sl ([.ref q0]) ++ List.replicate (1 - (lg_sl ([.ref q0])).length) Slot.unset).toArray = ls at hl ⊢
  have hl : lv_has ls 1 [(0, .ref q0)] := hl
  refine lv_aload_n hx hb dX9_behind_0 rfl (lv_at hl 0 rfl) ?_
  refine lv_aload_n hx hb dX9_behind_1 rfl (lv_at hl 0 rfl) ?_
  refine va_get (D := (dC, dI)) (ci := 6) (v := .int v_beats) (C := RX9) (T := TX9) (N := 10) hx hb hts iX9_behind_X9 hown hK hP 0 rfl rfl 6 (by decide) (hts (.fieldLink RX9 53 "TilingBeats" "beats" "I") (by decide +kernel)) (fun _ h9 => h9) rfl dX9_behind_2 ?_
  refine lv_aload_n hx hb dX9_behind_5 rfl (lv_at hl 0 rfl) ?_
  refine va_get (D := (dC, dI)) (ci := 6) (v := .int v_beats) (C := RX9) (T := TX9) (N := 10) hx hb hts iX9_behind_X9 hown hK hP 0 rfl rfl 6 (by decide) (hts (.fieldLink RX9 53 "TilingBeats" "beats" "I") (by decide +kernel)) (fun _ h9 => h9) rfl dX9_behind_6 ?_
  refine lv_aload_n hx hb dX9_behind_9 rfl (lv_at hl 0 rfl) ?_
  refine va_get (D := (dC, dI)) (ci := 6) (v := .int v_rhythm) (C := RX9) (T := TX9) (N := 10) hx hb hts iX9_behind_X9 hown hK hP 0 rfl rfl 7 (by decide) (hts (.fieldLink RX9 57 "TilingBeats" "rhythm" "I") (by decide +kernel)) (fun _ h9 => h9) rfl dX9_behind_10 ?_
  refine vs_calli (va_runSN (As := [.int v_beats, .int v_rhythm]) (rest := [.int v_beats, .ref q0]) ⟨hx, hb, hml, hown, hts⟩ (c_X6_mirrored l v_beats v_rhythm _ h) ⟨va_cnB 2 hts gX9_behind_X6_mirrored_n176 rfl rfl rfl (nw_52 hN) (hts (.initialized RX6) (by decide +kernel)) (by decide +kernel) ⟨Nat.le_of_ble_eq_true rfl, Nat.le_of_ble_eq_true rfl⟩, hts (.static yX6_mirrored) (by decide +kernel), trivial⟩ ⟨fun a U g mk q => ⟨q.1, nW_call q.2⟩, fun U hU hW => ⟨rfl, nW_warm hW hN⟩⟩ rfl rfl hl.1 rfl (lv_room (Nat.le_of_ble_eq_true rfl)) dX9_behind_13 ⟨Nat.le_of_ble_eq_true rfl, Nat.le_of_ble_eq_true rfl⟩) (fun r1 h => ?_)
  have hPc := hP.sub (ws' := [(q0, .inr (6, [.ref q_text, .ref q_past, .ref q_ear, .ref q_tilings, .ref q_mending, .ref q_images, .int v_beats, .int v_rhythm, .int v_draws, .int v_faultAt])), (q_past, .inr (3, [.ref q_past_beats, .ref q_past_rhythms, .int v_past_next, .int v_past_count])), (q_past_beats, .inl (cI, 30, .inl f_past_beats)), (q_past_rhythms, .inl (cI, 30, .inl f_past_rhythms))]) [0, 1, 2, 3] rfl
  have hDc := hD.sub (ws' := [(q0, .inr (6, [.ref q_text, .ref q_past, .ref q_ear, .ref q_tilings, .ref q_mending, .ref q_images, .int v_beats, .int v_rhythm, .int v_draws, .int v_faultAt])), (q_past, .inr (3, [.ref q_past_beats, .ref q_past_rhythms, .int v_past_next, .int v_past_count])), (q_past_beats, .inl (cI, 30, .inl f_past_beats)), (q_past_rhythms, .inl (cI, 30, .inl f_past_rhythms))]) [0, 1, 2, 3] (by decide) rfl
  have hFc := va_free (wc := [(q0, .inr (6, [.ref q_text, .ref q_past, .ref q_ear, .ref q_tilings, .ref q_mending, .ref q_images, .int v_beats, .int v_rhythm, .int v_draws, .int v_faultAt])), (q_past, .inr (3, [.ref q_past_beats, .ref q_past_rhythms, .int v_past_next, .int v_past_count])), (q_past_beats, .inl (cI, 30, .inl f_past_beats)), (q_past_rhythms, .inl (cI, 30, .inl f_past_rhythms))]) hD hS hA [0, 1, 2, 3] rfl
  refine va_calli (va_runV (As := [.int v_beats, .int r1]) (rest := []) ⟨hx, hb, hml, hown, hts⟩ (c_X9_change l dC dI cI cZ q0 q_text q_past q_ear q_tilings q_mending q_images q_past_beats q_past_rhythms s.heap.size v_beats v_rhythm v_draws v_faultAt v_past_next v_past_count f_past_beats f_past_rhythms v_beats r1 _ h) (cwV 2 hts gX9_behind_X9_change rfl rfl rfl (by decide +kernel) ⟨Nat.le_of_ble_eq_true rfl, Nat.le_of_ble_eq_true rfl⟩) ⟨fun a U g mk q => ⟨q.1, q.2.1, q.2.2.1, va_K.moved (u := U) (U := U.calling g mk a) (Vm.Alike.refl U.vm) q.2.2.2.1, q.2.2.2.2.1, nW_call q.2.2.2.2.2⟩, va_recv hK hPc (ci := 6) (q0 := 0) rfl rfl, fun U hU hW => ⟨rfl, by rw [hU], by rw [hU]; exact hPc, va_K.moved hW.alike hK, hDc.weaken (fun _ _ _ _ => trivial), nW_warm hW hN⟩⟩ rfl rfl hl.1 rfl (lv_room (Nat.le_of_ble_eq_true rfl)) dX9_behind_16 ⟨Nat.le_of_ble_eq_true rfl, Nat.le_of_ble_eq_true rfl⟩) hS (fun q _ h => hFc q h) hFc (fun r2 u t H1 locs ht hvm hw hB hz1 hk1 hS => ?_)
  obtain ⟨u3, u4, u5, u6, u7, u8⟩ := u
  obtain ⟨hP1, hD1⟩ := hB
  rw [ht] at hP1
  replace h := hw
  try dsimp only at h
  obtain ⟨hP, hD⟩ := va_join (wr := []) (w1 := [(q0, .inr (6, [.ref q_text, .ref q_past, .ref q_ear, .ref q_tilings, .ref q_mending, .ref q_images, .int u3, .int u4, .int v_draws, .int v_faultAt])), (q_past, .inr (3, [.ref q_past_beats, .ref q_past_rhythms, .int u5, .int u6])), (q_past_beats, .inl (cI, 30, .inl u7)), (q_past_rhythms, .inl (cI, 30, .inl u8))]) hP hD [0, 1, 2, 3] [] rfl rfl (by decide) (by decide) hk1 hFc hP1 hD1
  clear hP1 hD1 hFc hDc hPc hk1 hz1 hw hvm ht
  generalize H1 = H at hP hS ⊢
  have hP : va_P (dC, dI) vwCl [(q0, .inr (6, [.ref q_text, .ref q_past, .ref q_ear, .ref q_tilings, .ref q_mending, .ref q_images, .int u3, .int u4, .int v_draws, .int v_faultAt])), (q_past, .inr (3, [.ref q_past_beats, .ref q_past_rhythms, .int u5, .int u6])), (q_past_beats, .inl (cI, 30, .inl u7)), (q_past_rhythms, .inl (cI, 30, .inl u8))] H := hP.sub [0, 1, 2, 3] rfl
  have hD : va_D A [(q0, .inr (6, [.ref q_text, .ref q_past, .ref q_ear, .ref q_tilings, .ref q_mending, .ref q_images, .int u3, .int u4, .int v_draws, .int v_faultAt])), (q_past, .inr (3, [.ref q_past_beats, .ref q_past_rhythms, .int u5, .int u6])), (q_past_beats, .inl (cI, 30, .inl u7)), (q_past_rhythms, .inl (cI, 30, .inl u8))] := hD.sub [0, 1, 2, 3] (by decide) rfl
  exact W.iret (v := r2) hx hb hr (fun t ht hW => ⟨⟨_, (u3, u4, u5, u6, u7, u8), rfl, h, by rw [ht]; exact hP, hD⟩, hS.F ht⟩) hS.2.2 dX9_behind_19

def wp_X9_stretch_j11 (Q : Int32 → Int32 → Int32 → Int32 → Int32 → (Nat → Int32) → (Nat → Int32) → Prop) (v_beats : Int32) (v_rhythm : Int32) (v_past_next : Int32) (v_past_count : Int32) (f_past_beats : (Nat → Int32)) (f_past_rhythms : (Nat → Int32)) : Prop := Q (-1000000002) v_beats v_rhythm v_past_next v_past_count f_past_beats f_past_rhythms
def wp_X9_stretch (v_beats : Int32) (v_rhythm : Int32) (v_past_next : Int32) (v_past_count : Int32) (f_past_beats : (Nat → Int32)) (f_past_rhythms : (Nat → Int32)) (p1 : Int32) (Q : Int32 → Int32 → Int32 → Int32 → Int32 → (Nat → Int32) → (Nat → Int32) → Prop) : Prop := (p1 < 1 → (wp_X9_stretch_j11 Q v_beats v_rhythm v_past_next v_past_count f_past_beats f_past_rhythms)) ∧ (¬ p1 < 1 → ((p1 ≤ 23 → (wp_X6_full v_beats fun (r3 : Int32) => wp_X6_stretched v_beats r3 p1 fun (r4 : Int32) => (r4 = r3 → (wp_X6_stretched v_beats v_rhythm p1 fun (r6 : Int32) => wp_X9_change v_beats v_rhythm v_past_next v_past_count f_past_beats f_past_rhythms v_beats r6 fun (r7 : Int32) (u8 : Int32) (u9 : Int32) (u10 : Int32) (u11 : Int32) (u12 : (Nat → Int32)) (u13 : (Nat → Int32)) => Q r7 u8 u9 u10 u11 u12 u13)) ∧ (¬ r4 = r3 → (Q (-1000000003) v_beats v_rhythm v_past_next v_past_count f_past_beats f_past_rhythms)))) ∧ (¬ p1 ≤ 23 → (wp_X9_stretch_j11 Q v_beats v_rhythm v_past_next v_past_count f_past_beats f_past_rhythms))))
abbrev rmX9_stretch : Room := { frames := 4, cells := 0, slots := 0, locals := 86 }
set_option maxRecDepth 20000 in
theorem iX9_stretch_X9 : ∀ w ∈ wsX90, w ∈ wsX9_stretch := by decide +kernel
set_option maxHeartbeats 4000000 in
set_option maxRecDepth 100000 in
theorem c_X9_stretch (l : Launch) (dC : Nat → ClassId) (dI : Nat → Nat → Nat) (cI cZ : ClassId) (q0 q_text q_past q_ear q_tilings q_mending q_images q_past_beats q_past_rhythms : Nat) (sz : Nat) (v_beats : Int32) (v_rhythm : Int32) (v_draws : Int32) (v_faultAt : Int32) (v_past_next : Int32) (v_past_count : Int32) (f_past_beats : (Nat → Int32)) (f_past_rhythms : (Nat → Int32)) (p1 : Int32) (Q : Int32 → Int32 → Int32 → Int32 → Int32 → (Nat → Int32) → (Nat → Int32) → Prop) (h : wp_X9_stretch v_beats v_rhythm v_past_next v_past_count f_past_beats f_past_rhythms p1 Q) : Met l yX9_stretch wsX9_stretch (rmX9_stretch) (va_Pc [.ref q0, .int p1] (fun U => U.heap.size = sz ∧ va_P (dC, dI) vwCl [(q0, .inr (6, [.ref q_text, .ref q_past, .ref q_ear, .ref q_tilings, .ref q_mending, .ref q_images, .int v_beats, .int v_rhythm, .int v_draws, .int v_faultAt])), (q_past, .inr (3, [.ref q_past_beats, .ref q_past_rhythms, .int v_past_next, .int v_past_count])), (q_past_beats, .inl (cI, 30, .inl f_past_beats)), (q_past_rhythms, .inl (cI, 30, .inl f_past_rhythms))] U.heap ∧ va_K (dC, dI) vwCl (tyZ cI cZ) U ∧ va_D (fun _ => True) [(q0, .inr (6, [.ref q_text, .ref q_past, .ref q_ear, .ref q_tilings, .ref q_mending, .ref q_images, .int v_beats, .int v_rhythm, .int v_draws, .int v_faultAt])), (q_past, .inr (3, [.ref q_past_beats, .ref q_past_rhythms, .int v_past_next, .int v_past_count])), (q_past_beats, .inl (cI, 30, .inl f_past_beats)), (q_past_rhythms, .inl (cI, 30, .inl f_past_rhythms))] ∧ nW U)) (va_Qi (fun (r : Int32) (u : Int32 × Int32 × Int32 × Int32 × (Nat → Int32) × (Nat → Int32)) => Q r u.1 u.2.1 u.2.2.1 u.2.2.2.1 u.2.2.2.2.1 u.2.2.2.2.2) (fun (u : Int32 × Int32 × Int32 × Int32 × (Nat → Int32) × (Nat → Int32)) (t : State) => va_P (dC, dI) vwCl [(q0, .inr (6, [.ref q_text, .ref q_past, .ref q_ear, .ref q_tilings, .ref q_mending, .ref q_images, .int u.1, .int u.2.1, .int v_draws, .int v_faultAt])), (q_past, .inr (3, [.ref q_past_beats, .ref q_past_rhythms, .int u.2.2.1, .int u.2.2.2.1])), (q_past_beats, .inl (cI, 30, .inl u.2.2.2.2.1)), (q_past_rhythms, .inl (cI, 30, .inl u.2.2.2.2.2))] t.heap ∧ va_D (va_A [(q0, .inr (6, [.ref q_text, .ref q_past, .ref q_ear, .ref q_tilings, .ref q_mending, .ref q_images, .int v_beats, .int v_rhythm, .int v_draws, .int v_faultAt])), (q_past, .inr (3, [.ref q_past_beats, .ref q_past_rhythms, .int v_past_next, .int v_past_count])), (q_past_beats, .inl (cI, 30, .inl f_past_beats)), (q_past_rhythms, .inl (cI, 30, .inl f_past_rhythms))] sz) [(q0, .inr (6, [.ref q_text, .ref q_past, .ref q_ear, .ref q_tilings, .ref q_mending, .ref q_images, .int u.1, .int u.2.1, .int v_draws, .int v_faultAt])), (q_past, .inr (3, [.ref q_past_beats, .ref q_past_rhythms, .int u.2.2.1, .int u.2.2.2.1])), (q_past_beats, .inl (cI, 30, .inl u.2.2.2.2.1)), (q_past_rhythms, .inl (cI, 30, .inl u.2.2.2.2.2))]) (va_A [(q0, .inr (6, [.ref q_text, .ref q_past, .ref q_ear, .ref q_tilings, .ref q_mending, .ref q_images, .int v_beats, .int v_rhythm, .int v_draws, .int v_faultAt])), (q_past, .inr (3, [.ref q_past_beats, .ref q_past_rhythms, .int v_past_next, .int v_past_count])), (q_past_beats, .inl (cI, 30, .inl f_past_beats)), (q_past_rhythms, .inl (cI, 30, .inl f_past_rhythms))] sz)) 0 0 (va_A [(q0, .inr (6, [.ref q_text, .ref q_past, .ref q_ear, .ref q_tilings, .ref q_mending, .ref q_images, .int v_beats, .int v_rhythm, .int v_draws, .int v_faultAt])), (q_past, .inr (3, [.ref q_past_beats, .ref q_past_rhythms, .int v_past_next, .int v_past_count])), (q_past_beats, .inl (cI, 30, .inl f_past_beats)), (q_past_rhythms, .inl (cI, 30, .inl f_past_rhythms))] sz) := by
  unfold wp_X9_stretch at h
  refine Met.ofW (cc := cX9_stretch) (maxL := 3) (ret := (some .int)) (by decide) rfl ?_
  intro p e s m args below meth c s₁ B hml hv
  obtain ⟨rfl, hsz, hP, hK, hD0, hN⟩ := hv
  have hx := B.exec
  have hb := B.bytes
  have hr := B.returns
  have hts := atoms_spec (ws := wsX9_stretch) B.pre
  have hown : s.vm.findClass RX9 = some m.cls := findClass_of_methodNamed B.named
  have hlocks := B.notSynchronized
  subst hsz
  have hD := hD0.self (sz := s.heap.size)
  generalize hAe : va_A [(q0, .inr (6, [.ref q_text, .ref q_past, .ref q_ear, .ref q_tilings, .ref q_mending, .ref q_images, .int v_beats, .int v_rhythm, .int v_draws, .int v_faultAt])), (q_past, .inr (3, [.ref q_past_beats, .ref q_past_rhythms, .int v_past_next, .int v_past_count])), (q_past_beats, .inl (cI, 30, .inl f_past_beats)), (q_past_rhythms, .inl (cI, 30, .inl f_past_rhythms))] s.heap.size = A at hD ⊢
  have hA : ∀ q : Nat, s.heap.size ≤ q → A q := fun q h => by rw [← hAe]; exact Or.inr h
  clear hAe
  have hS : va_S A s.heap s.heap [] := va_S.rf
  have w11 : ∀ (v_beats : Int32) (v_rhythm : Int32) (v_past_next : Int32) (v_past_count : Int32) (f_past_beats : (Nat → Int32)) (f_past_rhythms : (Nat → Int32)), wp_X9_stretch_j11 Q v_beats v_rhythm v_past_next v_past_count f_past_beats f_past_rhythms → ∀ (H : Heap) (locs : List Loc) (ls : Array Slot), va_P (dC, dI) vwCl [(q0, .inr (6, [.ref q_text, .ref q_past, .ref q_ear, .ref q_tilings, .ref q_mending, .ref q_images, .int v_beats, .int v_rhythm, .int v_draws, .int v_faultAt])), (q_past, .inr (3, [.ref q_past_beats, .ref q_past_rhythms, .int v_past_next, .int v_past_count])), (q_past_beats, .inl (cI, 30, .inl f_past_beats)), (q_past_rhythms, .inl (cI, 30, .inl f_past_rhythms))] H → va_D A [(q0, .inr (6, [.ref q_text, .ref q_past, .ref q_ear, .ref q_tilings, .ref q_mending, .ref q_images, .int v_beats, .int v_rhythm, .int v_draws, .int v_faultAt])), (q_past, .inr (3, [.ref q_past_beats, .ref q_past_rhythms, .int v_past_next, .int v_past_count])), (q_past_beats, .inl (cI, 30, .inl f_past_beats)), (q_past_rhythms, .inl (cI, 30, .inl f_past_rhythms))] → va_S A s.heap H locs → lv_has ls 3 [] → W p l e (headSpec wsX9_stretch (rmX9_stretch)).room s m ([.ref q0, .int p1] : List Value).toArray below meth c H locs 0 0 (MQ below (va_Qi (fun (r : Int32) (u : Int32 × Int32 × Int32 × Int32 × (Nat → Int32) × (Nat → Int32)) => Q r u.1 u.2.1 u.2.2.1 u.2.2.2.1 u.2.2.2.2.1 u.2.2.2.2.2) (fun (u : Int32 × Int32 × Int32 × Int32 × (Nat → Int32) × (Nat → Int32)) (t : State) => va_P (dC, dI) vwCl [(q0, .inr (6, [.ref q_text, .ref q_past, .ref q_ear, .ref q_tilings, .ref q_mending, .ref q_images, .int u.1, .int u.2.1, .int v_draws, .int v_faultAt])), (q_past, .inr (3, [.ref q_past_beats, .ref q_past_rhythms, .int u.2.2.1, .int u.2.2.2.1])), (q_past_beats, .inl (cI, 30, .inl u.2.2.2.2.1)), (q_past_rhythms, .inl (cI, 30, .inl u.2.2.2.2.2))] t.heap ∧ va_D A [(q0, .inr (6, [.ref q_text, .ref q_past, .ref q_ear, .ref q_tilings, .ref q_mending, .ref q_images, .int u.1, .int u.2.1, .int v_draws, .int v_faultAt])), (q_past, .inr (3, [.ref q_past_beats, .ref q_past_rhythms, .int u.2.2.1, .int u.2.2.2.1])), (q_past_beats, .inl (cI, 30, .inl u.2.2.2.2.1)), (q_past_rhythms, .inl (cI, 30, .inl u.2.2.2.2.2))]) A) ([.ref q0, .int p1] : List Value).toArray s 0 0 A) (F0 m 11 ls []) := by
    intro v_beats v_rhythm v_past_next v_past_count f_past_beats f_past_rhythms h H locs ls hP hD hS hl
    unfold wp_X9_stretch_j11 at h
    refine lv_ldc (v := (-1000000002)) hx hb hown (hts (.constant RX9 66 (-1000000002)) (by decide +kernel)) dX9_stretch_11 ?_
    exact W.iret (v := (-1000000002)) hx hb hr (fun t ht hW => ⟨⟨_, (v_beats, v_rhythm, v_past_next, v_past_count, f_past_beats, f_past_rhythms), rfl, h, by rw [ht]; exact hP, hD⟩, hS.F ht⟩) hS.2.2 dX9_stretch_13
  have hl := lv_entry ([.ref q0, .int p1]) (n := 3) (Nat.le_of_ble_eq_true rfl)
  rw [lg_entry_eq]
  generalize (lg_sl ([.ref q0, .int p1]) ++ List.replicate (3 - (lg_sl ([.ref q0, .int p1])).length) Slot.unset).toArray = ls at hl ⊢
  have hl : lv_has ls 3 [(0, .ref q0), (1, .int p1)] := hl
  refine lv_iload_n hx hb dX9_stretch_0 rfl (lv_at hl 1 rfl) ?_
  refine lv_iconst (v := 1) hx hb dX9_stretch_1 (by decide) ?_
  refine lv_icmp_lt (tgt := 11) hx hb dX9_stretch_2 (by decide) (fun c1 => ?_) (fun c1 => ?_)
  · replace h := h.1 c1
    exact w11 v_beats v_rhythm v_past_next v_past_count f_past_beats f_past_rhythms h s.heap [] ls hP hD hS (lv_sub hl [] rfl)
  · replace h := h.2 c1
    refine lv_iload_n hx hb dX9_stretch_5 rfl (lv_at hl 1 rfl) ?_
    refine lv_bipush (v := 23) hx hb dX9_stretch_6 (by decide) ?_
    refine lv_icmp_le (tgt := 14) hx hb dX9_stretch_8 (by decide) (fun c2 => ?_) (fun c2 => ?_)
    · replace h := h.1 c2
      refine lv_aload_n hx hb dX9_stretch_14 rfl (lv_at hl 0 rfl) ?_
      refine va_get (D := (dC, dI)) (ci := 6) (v := .int v_beats) (C := RX9) (T := TX9) (N := 10) hx hb hts iX9_stretch_X9 hown hK hP 0 rfl rfl 6 (by decide) (hts (.fieldLink RX9 53 "TilingBeats" "beats" "I") (by decide +kernel)) (fun _ h9 => h9) rfl dX9_stretch_15 ?_
      refine vs_calli (va_runSN (As := [.int v_beats]) (rest := []) ⟨hx, hb, hml, hown, hts⟩ (c_X6_full l v_beats _ h) ⟨va_cnB 1 hts gX9_stretch_X6_full_n189 rfl rfl rfl (nw_54 hN) (hts (.initialized RX6) (by decide +kernel)) (by decide +kernel) ⟨Nat.le_of_ble_eq_true rfl, Nat.le_of_ble_eq_true rfl⟩, hts (.static yX6_full) (by decide +kernel), trivial⟩ ⟨fun a U g mk q => ⟨q.1, nW_call q.2⟩, fun U hU hW => ⟨rfl, nW_warm hW hN⟩⟩ rfl rfl hl.1 rfl (lv_room (Nat.le_of_ble_eq_true rfl)) dX9_stretch_18 ⟨Nat.le_of_ble_eq_true rfl, Nat.le_of_ble_eq_true rfl⟩) (fun r3 h => ?_)
      refine lv_istore_n (lv' := [(2, .int r3), (0, .ref q0), (1, .int p1)]) hx hb dX9_stretch_21 rfl hl (by decide) rfl (fun ls hl => ?_)
      refine lv_aload_n hx hb dX9_stretch_22 rfl (lv_at hl 1 rfl) ?_
      refine va_get (D := (dC, dI)) (ci := 6) (v := .int v_beats) (C := RX9) (T := TX9) (N := 10) hx hb hts iX9_stretch_X9 hown hK hP 0 rfl rfl 6 (by decide) (hts (.fieldLink RX9 53 "TilingBeats" "beats" "I") (by decide +kernel)) (fun _ h9 => h9) rfl dX9_stretch_23 ?_
      refine lv_iload_n hx hb dX9_stretch_26 rfl (lv_at hl 0 rfl) ?_
      refine lv_iload_n hx hb dX9_stretch_27 rfl (lv_at hl 2 rfl) ?_
      refine vs_calli (va_runSN (As := [.int v_beats, .int r3, .int p1]) (rest := []) ⟨hx, hb, hml, hown, hts⟩ (c_X6_stretched l v_beats r3 p1 _ h) ⟨va_cnB 3 hts gX9_stretch_X6_stretched_n192 rfl rfl rfl (nw_55 hN) (hts (.initialized RX6) (by decide +kernel)) (by decide +kernel) ⟨Nat.le_of_ble_eq_true rfl, Nat.le_of_ble_eq_true rfl⟩, hts (.static yX6_stretched) (by decide +kernel), trivial⟩ ⟨fun a U g mk q => ⟨q.1, nW_call q.2⟩, fun U hU hW => ⟨rfl, nW_warm hW hN⟩⟩ rfl rfl hl.1 rfl (lv_room (Nat.le_of_ble_eq_true rfl)) dX9_stretch_28 ⟨Nat.le_of_ble_eq_true rfl, Nat.le_of_ble_eq_true rfl⟩) (fun r4 h => ?_)
      refine lv_iload_n hx hb dX9_stretch_31 rfl (lv_at hl 0 rfl) ?_
      refine lv_icmp_eq (tgt := 38) hx hb dX9_stretch_32 (by decide) (fun c5 => ?_) (fun c5 => ?_)
      · replace h := h.1 c5
        refine lv_aload_n hx hb dX9_stretch_38 rfl (lv_at hl 1 rfl) ?_
        refine lv_aload_n hx hb dX9_stretch_39 rfl (lv_at hl 1 rfl) ?_
        refine va_get (D := (dC, dI)) (ci := 6) (v := .int v_beats) (C := RX9) (T := TX9) (N := 10) hx hb hts iX9_stretch_X9 hown hK hP 0 rfl rfl 6 (by decide) (hts (.fieldLink RX9 53 "TilingBeats" "beats" "I") (by decide +kernel)) (fun _ h9 => h9) rfl dX9_stretch_40 ?_
        refine lv_aload_n hx hb dX9_stretch_43 rfl (lv_at hl 1 rfl) ?_
        refine va_get (D := (dC, dI)) (ci := 6) (v := .int v_beats) (C := RX9) (T := TX9) (N := 10) hx hb hts iX9_stretch_X9 hown hK hP 0 rfl rfl 6 (by decide) (hts (.fieldLink RX9 53 "TilingBeats" "beats" "I") (by decide +kernel)) (fun _ h9 => h9) rfl dX9_stretch_44 ?_
        refine lv_aload_n hx hb dX9_stretch_47 rfl (lv_at hl 1 rfl) ?_
        refine va_get (D := (dC, dI)) (ci := 6) (v := .int v_rhythm) (C := RX9) (T := TX9) (N := 10) hx hb hts iX9_stretch_X9 hown hK hP 0 rfl rfl 7 (by decide) (hts (.fieldLink RX9 57 "TilingBeats" "rhythm" "I") (by decide +kernel)) (fun _ h9 => h9) rfl dX9_stretch_48 ?_
        refine lv_iload_n hx hb dX9_stretch_51 rfl (lv_at hl 2 rfl) ?_
        refine vs_calli (va_runSN (As := [.int v_beats, .int v_rhythm, .int p1]) (rest := [.int v_beats, .ref q0]) ⟨hx, hb, hml, hown, hts⟩ (c_X6_stretched l v_beats v_rhythm p1 _ h) ⟨va_cnB 3 hts gX9_stretch_X6_stretched_n192 rfl rfl rfl (nw_55 hN) (hts (.initialized RX6) (by decide +kernel)) (by decide +kernel) ⟨Nat.le_of_ble_eq_true rfl, Nat.le_of_ble_eq_true rfl⟩, hts (.static yX6_stretched) (by decide +kernel), trivial⟩ ⟨fun a U g mk q => ⟨q.1, nW_call q.2⟩, fun U hU hW => ⟨rfl, nW_warm hW hN⟩⟩ rfl rfl hl.1 rfl (lv_room (Nat.le_of_ble_eq_true rfl)) dX9_stretch_52 ⟨Nat.le_of_ble_eq_true rfl, Nat.le_of_ble_eq_true rfl⟩) (fun r6 h => ?_)
        have hPc := hP.sub (ws' := [(q0, .inr (6, [.ref q_text, .ref q_past, .ref q_ear, .ref q_tilings, .ref q_mending, .ref q_images, .int v_beats, .int v_rhythm, .int v_draws, .int v_faultAt])), (q_past, .inr (3, [.ref q_past_beats, .ref q_past_rhythms, .int v_past_next, .int v_past_count])), (q_past_beats, .inl (cI, 30, .inl f_past_beats)), (q_past_rhythms, .inl (cI, 30, .inl f_past_rhythms))]) [0, 1, 2, 3] rfl
        have hDc := hD.sub (ws' := [(q0, .inr (6, [.ref q_text, .ref q_past, .ref q_ear, .ref q_tilings, .ref q_mending, .ref q_images, .int v_beats, .int v_rhythm, .int v_draws, .int v_faultAt])), (q_past, .inr (3, [.ref q_past_beats, .ref q_past_rhythms, .int v_past_next, .int v_past_count])), (q_past_beats, .inl (cI, 30, .inl f_past_beats)), (q_past_rhythms, .inl (cI, 30, .inl f_past_rhythms))]) [0, 1, 2, 3] (by decide) rfl
        have hFc := va_free (wc := [(q0, .inr (6, [.ref q_text, .ref q_past, .ref q_ear, .ref q_tilings, .ref q_mending, .ref q_images, .int v_beats, .int v_rhythm, .int v_draws, .int v_faultAt])), (q_past, .inr (3, [.ref q_past_beats, .ref q_past_rhythms, .int v_past_next, .int v_past_count])), (q_past_beats, .inl (cI, 30, .inl f_past_beats)), (q_past_rhythms, .inl (cI, 30, .inl f_past_rhythms))]) hD hS hA [0, 1, 2, 3] rfl
        refine va_calli (va_runV (As := [.int v_beats, .int r6]) (rest := []) ⟨hx, hb, hml, hown, hts⟩ (c_X9_change l dC dI cI cZ q0 q_text q_past q_ear q_tilings q_mending q_images q_past_beats q_past_rhythms s.heap.size v_beats v_rhythm v_draws v_faultAt v_past_next v_past_count f_past_beats f_past_rhythms v_beats r6 _ h) (cwV 2 hts gX9_stretch_X9_change rfl rfl rfl (by decide +kernel) ⟨Nat.le_of_ble_eq_true rfl, Nat.le_of_ble_eq_true rfl⟩) ⟨fun a U g mk q => ⟨q.1, q.2.1, q.2.2.1, va_K.moved (u := U) (U := U.calling g mk a) (Vm.Alike.refl U.vm) q.2.2.2.1, q.2.2.2.2.1, nW_call q.2.2.2.2.2⟩, va_recv hK hPc (ci := 6) (q0 := 0) rfl rfl, fun U hU hW => ⟨rfl, by rw [hU], by rw [hU]; exact hPc, va_K.moved hW.alike hK, hDc.weaken (fun _ _ _ _ => trivial), nW_warm hW hN⟩⟩ rfl rfl hl.1 rfl (lv_room (Nat.le_of_ble_eq_true rfl)) dX9_stretch_55 ⟨Nat.le_of_ble_eq_true rfl, Nat.le_of_ble_eq_true rfl⟩) hS (fun q _ h => hFc q h) hFc (fun r7 u t H1 locs ht hvm hw hB hz1 hk1 hS => ?_)
        obtain ⟨u8, u9, u10, u11, u12, u13⟩ := u
        obtain ⟨hP1, hD1⟩ := hB
        rw [ht] at hP1
        replace h := hw
        try dsimp only at h
        obtain ⟨hP, hD⟩ := va_join (wr := []) (w1 := [(q0, .inr (6, [.ref q_text, .ref q_past, .ref q_ear, .ref q_tilings, .ref q_mending, .ref q_images, .int u8, .int u9, .int v_draws, .int v_faultAt])), (q_past, .inr (3, [.ref q_past_beats, .ref q_past_rhythms, .int u10, .int u11])), (q_past_beats, .inl (cI, 30, .inl u12)), (q_past_rhythms, .inl (cI, 30, .inl u13))]) hP hD [0, 1, 2, 3] [] rfl rfl (by decide) (by decide) hk1 hFc hP1 hD1
        clear hP1 hD1 hFc hDc hPc hk1 hz1 hw hvm ht
        generalize H1 = H at hP hS ⊢
        have hP : va_P (dC, dI) vwCl [(q0, .inr (6, [.ref q_text, .ref q_past, .ref q_ear, .ref q_tilings, .ref q_mending, .ref q_images, .int u8, .int u9, .int v_draws, .int v_faultAt])), (q_past, .inr (3, [.ref q_past_beats, .ref q_past_rhythms, .int u10, .int u11])), (q_past_beats, .inl (cI, 30, .inl u12)), (q_past_rhythms, .inl (cI, 30, .inl u13))] H := hP.sub [0, 1, 2, 3] rfl
        have hD : va_D A [(q0, .inr (6, [.ref q_text, .ref q_past, .ref q_ear, .ref q_tilings, .ref q_mending, .ref q_images, .int u8, .int u9, .int v_draws, .int v_faultAt])), (q_past, .inr (3, [.ref q_past_beats, .ref q_past_rhythms, .int u10, .int u11])), (q_past_beats, .inl (cI, 30, .inl u12)), (q_past_rhythms, .inl (cI, 30, .inl u13))] := hD.sub [0, 1, 2, 3] (by decide) rfl
        exact W.iret (v := r7) hx hb hr (fun t ht hW => ⟨⟨_, (u8, u9, u10, u11, u12, u13), rfl, h, by rw [ht]; exact hP, hD⟩, hS.F ht⟩) hS.2.2 dX9_stretch_58
      · replace h := h.2 c5
        refine lv_ldc (v := (-1000000003)) hx hb hown (hts (.constant RX9 169 (-1000000003)) (by decide +kernel)) dX9_stretch_35 ?_
        exact W.iret (v := (-1000000003)) hx hb hr (fun t ht hW => ⟨⟨_, (v_beats, v_rhythm, v_past_next, v_past_count, f_past_beats, f_past_rhythms), rfl, h, by rw [ht]; exact hP, hD⟩, hS.F ht⟩) hS.2.2 dX9_stretch_37
    · replace h := h.2 c2
      exact w11 v_beats v_rhythm v_past_next v_past_count f_past_beats f_past_rhythms h s.heap [] ls hP hD hS (lv_sub hl [] rfl)

def wp_X9_twice (v_beats : Int32) (v_rhythm : Int32) (v_past_next : Int32) (v_past_count : Int32) (f_past_beats : (Nat → Int32)) (f_past_rhythms : (Nat → Int32)) (Q : Int32 → Int32 → Int32 → Int32 → Int32 → (Nat → Int32) → (Nat → Int32) → Prop) : Prop := ((2 * v_beats) ≤ 24 → (wp_X9_change v_beats v_rhythm v_past_next v_past_count f_past_beats f_past_rhythms (2 * v_beats) (v_rhythm ||| (v_rhythm <<< (v_beats &&& 31))) fun (r2 : Int32) (u3 : Int32) (u4 : Int32) (u5 : Int32) (u6 : Int32) (u7 : (Nat → Int32)) (u8 : (Nat → Int32)) => Q u3 u3 u4 u5 u6 u7 u8)) ∧ (¬ (2 * v_beats) ≤ 24 → (Q (-1000000004) v_beats v_rhythm v_past_next v_past_count f_past_beats f_past_rhythms))
abbrev rmX9_twice : Room := { frames := 4, cells := 0, slots := 0, locals := 86 }
set_option maxRecDepth 20000 in
theorem iX9_twice_X9 : ∀ w ∈ wsX90, w ∈ wsX9_twice := by decide +kernel
set_option maxHeartbeats 4000000 in
set_option maxRecDepth 100000 in
theorem c_X9_twice (l : Launch) (dC : Nat → ClassId) (dI : Nat → Nat → Nat) (cI cZ : ClassId) (q0 q_text q_past q_ear q_tilings q_mending q_images q_past_beats q_past_rhythms : Nat) (sz : Nat) (v_beats : Int32) (v_rhythm : Int32) (v_draws : Int32) (v_faultAt : Int32) (v_past_next : Int32) (v_past_count : Int32) (f_past_beats : (Nat → Int32)) (f_past_rhythms : (Nat → Int32))  (Q : Int32 → Int32 → Int32 → Int32 → Int32 → (Nat → Int32) → (Nat → Int32) → Prop) (h : wp_X9_twice v_beats v_rhythm v_past_next v_past_count f_past_beats f_past_rhythms Q) : Met l yX9_twice wsX9_twice (rmX9_twice) (va_Pc [.ref q0] (fun U => U.heap.size = sz ∧ va_P (dC, dI) vwCl [(q0, .inr (6, [.ref q_text, .ref q_past, .ref q_ear, .ref q_tilings, .ref q_mending, .ref q_images, .int v_beats, .int v_rhythm, .int v_draws, .int v_faultAt])), (q_past, .inr (3, [.ref q_past_beats, .ref q_past_rhythms, .int v_past_next, .int v_past_count])), (q_past_beats, .inl (cI, 30, .inl f_past_beats)), (q_past_rhythms, .inl (cI, 30, .inl f_past_rhythms))] U.heap ∧ va_K (dC, dI) vwCl (tyZ cI cZ) U ∧ va_D (fun _ => True) [(q0, .inr (6, [.ref q_text, .ref q_past, .ref q_ear, .ref q_tilings, .ref q_mending, .ref q_images, .int v_beats, .int v_rhythm, .int v_draws, .int v_faultAt])), (q_past, .inr (3, [.ref q_past_beats, .ref q_past_rhythms, .int v_past_next, .int v_past_count])), (q_past_beats, .inl (cI, 30, .inl f_past_beats)), (q_past_rhythms, .inl (cI, 30, .inl f_past_rhythms))] ∧ nW U)) (va_Qi (fun (r : Int32) (u : Int32 × Int32 × Int32 × Int32 × (Nat → Int32) × (Nat → Int32)) => Q r u.1 u.2.1 u.2.2.1 u.2.2.2.1 u.2.2.2.2.1 u.2.2.2.2.2) (fun (u : Int32 × Int32 × Int32 × Int32 × (Nat → Int32) × (Nat → Int32)) (t : State) => va_P (dC, dI) vwCl [(q0, .inr (6, [.ref q_text, .ref q_past, .ref q_ear, .ref q_tilings, .ref q_mending, .ref q_images, .int u.1, .int u.2.1, .int v_draws, .int v_faultAt])), (q_past, .inr (3, [.ref q_past_beats, .ref q_past_rhythms, .int u.2.2.1, .int u.2.2.2.1])), (q_past_beats, .inl (cI, 30, .inl u.2.2.2.2.1)), (q_past_rhythms, .inl (cI, 30, .inl u.2.2.2.2.2))] t.heap ∧ va_D (va_A [(q0, .inr (6, [.ref q_text, .ref q_past, .ref q_ear, .ref q_tilings, .ref q_mending, .ref q_images, .int v_beats, .int v_rhythm, .int v_draws, .int v_faultAt])), (q_past, .inr (3, [.ref q_past_beats, .ref q_past_rhythms, .int v_past_next, .int v_past_count])), (q_past_beats, .inl (cI, 30, .inl f_past_beats)), (q_past_rhythms, .inl (cI, 30, .inl f_past_rhythms))] sz) [(q0, .inr (6, [.ref q_text, .ref q_past, .ref q_ear, .ref q_tilings, .ref q_mending, .ref q_images, .int u.1, .int u.2.1, .int v_draws, .int v_faultAt])), (q_past, .inr (3, [.ref q_past_beats, .ref q_past_rhythms, .int u.2.2.1, .int u.2.2.2.1])), (q_past_beats, .inl (cI, 30, .inl u.2.2.2.2.1)), (q_past_rhythms, .inl (cI, 30, .inl u.2.2.2.2.2))]) (va_A [(q0, .inr (6, [.ref q_text, .ref q_past, .ref q_ear, .ref q_tilings, .ref q_mending, .ref q_images, .int v_beats, .int v_rhythm, .int v_draws, .int v_faultAt])), (q_past, .inr (3, [.ref q_past_beats, .ref q_past_rhythms, .int v_past_next, .int v_past_count])), (q_past_beats, .inl (cI, 30, .inl f_past_beats)), (q_past_rhythms, .inl (cI, 30, .inl f_past_rhythms))] sz)) 0 0 (va_A [(q0, .inr (6, [.ref q_text, .ref q_past, .ref q_ear, .ref q_tilings, .ref q_mending, .ref q_images, .int v_beats, .int v_rhythm, .int v_draws, .int v_faultAt])), (q_past, .inr (3, [.ref q_past_beats, .ref q_past_rhythms, .int v_past_next, .int v_past_count])), (q_past_beats, .inl (cI, 30, .inl f_past_beats)), (q_past_rhythms, .inl (cI, 30, .inl f_past_rhythms))] sz) := by
  unfold wp_X9_twice at h
  refine Met.ofW (cc := cX9_twice) (maxL := 1) (ret := (some .int)) (by decide) rfl ?_
  intro p e s m args below meth c s₁ B hml hv
  obtain ⟨rfl, hsz, hP, hK, hD0, hN⟩ := hv
  have hx := B.exec
  have hb := B.bytes
  have hr := B.returns
  have hts := atoms_spec (ws := wsX9_twice) B.pre
  have hown : s.vm.findClass RX9 = some m.cls := findClass_of_methodNamed B.named
  have hlocks := B.notSynchronized
  subst hsz
  have hD := hD0.self (sz := s.heap.size)
  generalize hAe : va_A [(q0, .inr (6, [.ref q_text, .ref q_past, .ref q_ear, .ref q_tilings, .ref q_mending, .ref q_images, .int v_beats, .int v_rhythm, .int v_draws, .int v_faultAt])), (q_past, .inr (3, [.ref q_past_beats, .ref q_past_rhythms, .int v_past_next, .int v_past_count])), (q_past_beats, .inl (cI, 30, .inl f_past_beats)), (q_past_rhythms, .inl (cI, 30, .inl f_past_rhythms))] s.heap.size = A at hD ⊢
  have hA : ∀ q : Nat, s.heap.size ≤ q → A q := fun q h => by rw [← hAe]; exact Or.inr h
  clear hAe
  have hS : va_S A s.heap s.heap [] := va_S.rf
  have hl := lv_entry ([.ref q0]) (n := 1) (Nat.le_of_ble_eq_true rfl)
  rw [lg_entry_eq]
  generalize (lg_sl ([.ref q0]) ++ List.replicate (1 - (lg_sl ([.ref q0])).length) Slot.unset).toArray = ls at hl ⊢
  have hl : lv_has ls 1 [(0, .ref q0)] := hl
  refine lv_iconst (v := 2) hx hb dX9_twice_0 (by decide) ?_
  refine lv_aload_n hx hb dX9_twice_1 rfl (lv_at hl 0 rfl) ?_
  refine va_get (D := (dC, dI)) (ci := 6) (v := .int v_beats) (C := RX9) (T := TX9) (N := 10) hx hb hts iX9_twice_X9 hown hK hP 0 rfl rfl 6 (by decide) (hts (.fieldLink RX9 53 "TilingBeats" "beats" "I") (by decide +kernel)) (fun _ h9 => h9) rfl dX9_twice_2 ?_
  refine lv_imul hx hb dX9_twice_5 ?_
  refine lv_bipush (v := 24) hx hb dX9_twice_6 (by decide) ?_
  refine lv_icmp_le (tgt := 14) hx hb dX9_twice_8 (by decide) (fun c1 => ?_) (fun c1 => ?_)
  · replace h := h.1 c1
    refine lv_aload_n hx hb dX9_twice_14 rfl (lv_at hl 0 rfl) ?_
    refine lv_iconst (v := 2) hx hb dX9_twice_15 (by decide) ?_
    refine lv_aload_n hx hb dX9_twice_16 rfl (lv_at hl 0 rfl) ?_
    refine va_get (D := (dC, dI)) (ci := 6) (v := .int v_beats) (C := RX9) (T := TX9) (N := 10) hx hb hts iX9_twice_X9 hown hK hP 0 rfl rfl 6 (by decide) (hts (.fieldLink RX9 53 "TilingBeats" "beats" "I") (by decide +kernel)) (fun _ h9 => h9) rfl dX9_twice_17 ?_
    refine lv_imul hx hb dX9_twice_20 ?_
    refine lv_aload_n hx hb dX9_twice_21 rfl (lv_at hl 0 rfl) ?_
    refine va_get (D := (dC, dI)) (ci := 6) (v := .int v_rhythm) (C := RX9) (T := TX9) (N := 10) hx hb hts iX9_twice_X9 hown hK hP 0 rfl rfl 7 (by decide) (hts (.fieldLink RX9 57 "TilingBeats" "rhythm" "I") (by decide +kernel)) (fun _ h9 => h9) rfl dX9_twice_22 ?_
    refine lv_aload_n hx hb dX9_twice_25 rfl (lv_at hl 0 rfl) ?_
    refine va_get (D := (dC, dI)) (ci := 6) (v := .int v_rhythm) (C := RX9) (T := TX9) (N := 10) hx hb hts iX9_twice_X9 hown hK hP 0 rfl rfl 7 (by decide) (hts (.fieldLink RX9 57 "TilingBeats" "rhythm" "I") (by decide +kernel)) (fun _ h9 => h9) rfl dX9_twice_26 ?_
    refine lv_aload_n hx hb dX9_twice_29 rfl (lv_at hl 0 rfl) ?_
    refine va_get (D := (dC, dI)) (ci := 6) (v := .int v_beats) (C := RX9) (T := TX9) (N := 10) hx hb hts iX9_twice_X9 hown hK hP 0 rfl rfl 6 (by decide) (hts (.fieldLink RX9 53 "TilingBeats" "beats" "I") (by decide +kernel)) (fun _ h9 => h9) rfl dX9_twice_30 ?_
    refine lv_ishl hx hb dX9_twice_33 ?_
    refine lv_ior hx hb dX9_twice_34 ?_
    have hPc := hP.sub (ws' := [(q0, .inr (6, [.ref q_text, .ref q_past, .ref q_ear, .ref q_tilings, .ref q_mending, .ref q_images, .int v_beats, .int v_rhythm, .int v_draws, .int v_faultAt])), (q_past, .inr (3, [.ref q_past_beats, .ref q_past_rhythms, .int v_past_next, .int v_past_count])), (q_past_beats, .inl (cI, 30, .inl f_past_beats)), (q_past_rhythms, .inl (cI, 30, .inl f_past_rhythms))]) [0, 1, 2, 3] rfl
    have hDc := hD.sub (ws' := [(q0, .inr (6, [.ref q_text, .ref q_past, .ref q_ear, .ref q_tilings, .ref q_mending, .ref q_images, .int v_beats, .int v_rhythm, .int v_draws, .int v_faultAt])), (q_past, .inr (3, [.ref q_past_beats, .ref q_past_rhythms, .int v_past_next, .int v_past_count])), (q_past_beats, .inl (cI, 30, .inl f_past_beats)), (q_past_rhythms, .inl (cI, 30, .inl f_past_rhythms))]) [0, 1, 2, 3] (by decide) rfl
    have hFc := va_free (wc := [(q0, .inr (6, [.ref q_text, .ref q_past, .ref q_ear, .ref q_tilings, .ref q_mending, .ref q_images, .int v_beats, .int v_rhythm, .int v_draws, .int v_faultAt])), (q_past, .inr (3, [.ref q_past_beats, .ref q_past_rhythms, .int v_past_next, .int v_past_count])), (q_past_beats, .inl (cI, 30, .inl f_past_beats)), (q_past_rhythms, .inl (cI, 30, .inl f_past_rhythms))]) hD hS hA [0, 1, 2, 3] rfl
    refine va_calli (va_runV (As := [.int (2 * v_beats), .int (v_rhythm ||| (v_rhythm <<< (v_beats &&& 31)))]) (rest := []) ⟨hx, hb, hml, hown, hts⟩ (c_X9_change l dC dI cI cZ q0 q_text q_past q_ear q_tilings q_mending q_images q_past_beats q_past_rhythms s.heap.size v_beats v_rhythm v_draws v_faultAt v_past_next v_past_count f_past_beats f_past_rhythms (2 * v_beats) (v_rhythm ||| (v_rhythm <<< (v_beats &&& 31))) _ h) (cwV 2 hts gX9_twice_X9_change rfl rfl rfl (by decide +kernel) ⟨Nat.le_of_ble_eq_true rfl, Nat.le_of_ble_eq_true rfl⟩) ⟨fun a U g mk q => ⟨q.1, q.2.1, q.2.2.1, va_K.moved (u := U) (U := U.calling g mk a) (Vm.Alike.refl U.vm) q.2.2.2.1, q.2.2.2.2.1, nW_call q.2.2.2.2.2⟩, va_recv hK hPc (ci := 6) (q0 := 0) rfl rfl, fun U hU hW => ⟨rfl, by rw [hU], by rw [hU]; exact hPc, va_K.moved hW.alike hK, hDc.weaken (fun _ _ _ _ => trivial), nW_warm hW hN⟩⟩ rfl rfl hl.1 rfl (lv_room (Nat.le_of_ble_eq_true rfl)) dX9_twice_35 ⟨Nat.le_of_ble_eq_true rfl, Nat.le_of_ble_eq_true rfl⟩) hS (fun q _ h => hFc q h) hFc (fun r2 u t H1 locs ht hvm hw hB hz1 hk1 hS => ?_)
    obtain ⟨u3, u4, u5, u6, u7, u8⟩ := u
    obtain ⟨hP1, hD1⟩ := hB
    rw [ht] at hP1
    replace h := hw
    try dsimp only at h
    obtain ⟨hP, hD⟩ := va_join (wr := []) (w1 := [(q0, .inr (6, [.ref q_text, .ref q_past, .ref q_ear, .ref q_tilings, .ref q_mending, .ref q_images, .int u3, .int u4, .int v_draws, .int v_faultAt])), (q_past, .inr (3, [.ref q_past_beats, .ref q_past_rhythms, .int u5, .int u6])), (q_past_beats, .inl (cI, 30, .inl u7)), (q_past_rhythms, .inl (cI, 30, .inl u8))]) hP hD [0, 1, 2, 3] [] rfl rfl (by decide) (by decide) hk1 hFc hP1 hD1
    clear hP1 hD1 hFc hDc hPc hk1 hz1 hw hvm ht
    generalize H1 = H at hP hS ⊢
    have hP : va_P (dC, dI) vwCl [(q0, .inr (6, [.ref q_text, .ref q_past, .ref q_ear, .ref q_tilings, .ref q_mending, .ref q_images, .int u3, .int u4, .int v_draws, .int v_faultAt])), (q_past, .inr (3, [.ref q_past_beats, .ref q_past_rhythms, .int u5, .int u6])), (q_past_beats, .inl (cI, 30, .inl u7)), (q_past_rhythms, .inl (cI, 30, .inl u8))] H := hP.sub [0, 1, 2, 3] rfl
    have hD : va_D A [(q0, .inr (6, [.ref q_text, .ref q_past, .ref q_ear, .ref q_tilings, .ref q_mending, .ref q_images, .int u3, .int u4, .int v_draws, .int v_faultAt])), (q_past, .inr (3, [.ref q_past_beats, .ref q_past_rhythms, .int u5, .int u6])), (q_past_beats, .inl (cI, 30, .inl u7)), (q_past_rhythms, .inl (cI, 30, .inl u8))] := hD.sub [0, 1, 2, 3] (by decide) rfl
    refine lv_pop hx hb dX9_twice_38 rfl ?_
    refine lv_aload_n hx hb dX9_twice_39 rfl (lv_at hl 0 rfl) ?_
    refine va_get (D := (dC, dI)) (ci := 6) (v := .int u3) (C := RX9) (T := TX9) (N := 10) hx hb hts iX9_twice_X9 hown hK hP 0 rfl rfl 6 (by decide) (hts (.fieldLink RX9 53 "TilingBeats" "beats" "I") (by decide +kernel)) (fun _ h9 => h9) rfl dX9_twice_40 ?_
    exact W.iret (v := u3) hx hb hr (fun t ht hW => ⟨⟨_, (u3, u4, u5, u6, u7, u8), rfl, h, by rw [ht]; exact hP, hD⟩, hS.F ht⟩) hS.2.2 dX9_twice_43
  · replace h := h.2 c1
    refine lv_ldc (v := (-1000000004)) hx hb hown (hts (.constant RX9 195 (-1000000004)) (by decide +kernel)) dX9_twice_11 ?_
    exact W.iret (v := (-1000000004)) hx hb hr (fun t ht hW => ⟨⟨_, (v_beats, v_rhythm, v_past_next, v_past_count, f_past_beats, f_past_rhythms), rfl, h, by rw [ht]; exact hP, hD⟩, hS.F ht⟩) hS.2.2 dX9_twice_13

def wp_X9_cycle_j11 (Q : Int32 → Int32 → Int32 → Int32 → Int32 → (Nat → Int32) → (Nat → Int32) → Prop) (v_beats : Int32) (v_rhythm : Int32) (v_past_next : Int32) (v_past_count : Int32) (f_past_beats : (Nat → Int32)) (f_past_rhythms : (Nat → Int32)) : Prop := Q (-1000000002) v_beats v_rhythm v_past_next v_past_count f_past_beats f_past_rhythms
def wp_X9_cycle (v_beats : Int32) (v_rhythm : Int32) (v_past_next : Int32) (v_past_count : Int32) (f_past_beats : (Nat → Int32)) (f_past_rhythms : (Nat → Int32)) (p1 : Int32) (Q : Int32 → Int32 → Int32 → Int32 → Int32 → (Nat → Int32) → (Nat → Int32) → Prop) : Prop := (p1 < 1 → (wp_X9_cycle_j11 Q v_beats v_rhythm v_past_next v_past_count f_past_beats f_past_rhythms)) ∧ (¬ p1 < 1 → ((p1 ≤ 24 → (wp_X6_full p1 fun (r3 : Int32) => wp_X9_change v_beats v_rhythm v_past_next v_past_count f_past_beats f_past_rhythms p1 (v_rhythm &&& r3) fun (r4 : Int32) (u5 : Int32) (u6 : Int32) (u7 : Int32) (u8 : Int32) (u9 : (Nat → Int32)) (u10 : (Nat → Int32)) => wp_J6_bitCount_0f7a4 r4 fun (r11 : Int32) => Q r11 u5 u6 u7 u8 u9 u10)) ∧ (¬ p1 ≤ 24 → (wp_X9_cycle_j11 Q v_beats v_rhythm v_past_next v_past_count f_past_beats f_past_rhythms))))
abbrev rmX9_cycle : Room := { frames := 4, cells := 0, slots := 0, locals := 86 }
set_option maxRecDepth 20000 in
theorem iX9_cycle_X9 : ∀ w ∈ wsX90, w ∈ wsX9_cycle := by decide +kernel
set_option maxHeartbeats 4000000 in
set_option maxRecDepth 100000 in
theorem c_X9_cycle (l : Launch) (dC : Nat → ClassId) (dI : Nat → Nat → Nat) (cI cZ : ClassId) (q0 q_text q_past q_ear q_tilings q_mending q_images q_past_beats q_past_rhythms : Nat) (sz : Nat) (v_beats : Int32) (v_rhythm : Int32) (v_draws : Int32) (v_faultAt : Int32) (v_past_next : Int32) (v_past_count : Int32) (f_past_beats : (Nat → Int32)) (f_past_rhythms : (Nat → Int32)) (p1 : Int32) (Q : Int32 → Int32 → Int32 → Int32 → Int32 → (Nat → Int32) → (Nat → Int32) → Prop) (h : wp_X9_cycle v_beats v_rhythm v_past_next v_past_count f_past_beats f_past_rhythms p1 Q) : Met l yX9_cycle wsX9_cycle (rmX9_cycle) (va_Pc [.ref q0, .int p1] (fun U => U.heap.size = sz ∧ va_P (dC, dI) vwCl [(q0, .inr (6, [.ref q_text, .ref q_past, .ref q_ear, .ref q_tilings, .ref q_mending, .ref q_images, .int v_beats, .int v_rhythm, .int v_draws, .int v_faultAt])), (q_past, .inr (3, [.ref q_past_beats, .ref q_past_rhythms, .int v_past_next, .int v_past_count])), (q_past_beats, .inl (cI, 30, .inl f_past_beats)), (q_past_rhythms, .inl (cI, 30, .inl f_past_rhythms))] U.heap ∧ va_K (dC, dI) vwCl (tyZ cI cZ) U ∧ va_D (fun _ => True) [(q0, .inr (6, [.ref q_text, .ref q_past, .ref q_ear, .ref q_tilings, .ref q_mending, .ref q_images, .int v_beats, .int v_rhythm, .int v_draws, .int v_faultAt])), (q_past, .inr (3, [.ref q_past_beats, .ref q_past_rhythms, .int v_past_next, .int v_past_count])), (q_past_beats, .inl (cI, 30, .inl f_past_beats)), (q_past_rhythms, .inl (cI, 30, .inl f_past_rhythms))] ∧ nW U)) (va_Qi (fun (r : Int32) (u : Int32 × Int32 × Int32 × Int32 × (Nat → Int32) × (Nat → Int32)) => Q r u.1 u.2.1 u.2.2.1 u.2.2.2.1 u.2.2.2.2.1 u.2.2.2.2.2) (fun (u : Int32 × Int32 × Int32 × Int32 × (Nat → Int32) × (Nat → Int32)) (t : State) => va_P (dC, dI) vwCl [(q0, .inr (6, [.ref q_text, .ref q_past, .ref q_ear, .ref q_tilings, .ref q_mending, .ref q_images, .int u.1, .int u.2.1, .int v_draws, .int v_faultAt])), (q_past, .inr (3, [.ref q_past_beats, .ref q_past_rhythms, .int u.2.2.1, .int u.2.2.2.1])), (q_past_beats, .inl (cI, 30, .inl u.2.2.2.2.1)), (q_past_rhythms, .inl (cI, 30, .inl u.2.2.2.2.2))] t.heap ∧ va_D (va_A [(q0, .inr (6, [.ref q_text, .ref q_past, .ref q_ear, .ref q_tilings, .ref q_mending, .ref q_images, .int v_beats, .int v_rhythm, .int v_draws, .int v_faultAt])), (q_past, .inr (3, [.ref q_past_beats, .ref q_past_rhythms, .int v_past_next, .int v_past_count])), (q_past_beats, .inl (cI, 30, .inl f_past_beats)), (q_past_rhythms, .inl (cI, 30, .inl f_past_rhythms))] sz) [(q0, .inr (6, [.ref q_text, .ref q_past, .ref q_ear, .ref q_tilings, .ref q_mending, .ref q_images, .int u.1, .int u.2.1, .int v_draws, .int v_faultAt])), (q_past, .inr (3, [.ref q_past_beats, .ref q_past_rhythms, .int u.2.2.1, .int u.2.2.2.1])), (q_past_beats, .inl (cI, 30, .inl u.2.2.2.2.1)), (q_past_rhythms, .inl (cI, 30, .inl u.2.2.2.2.2))]) (va_A [(q0, .inr (6, [.ref q_text, .ref q_past, .ref q_ear, .ref q_tilings, .ref q_mending, .ref q_images, .int v_beats, .int v_rhythm, .int v_draws, .int v_faultAt])), (q_past, .inr (3, [.ref q_past_beats, .ref q_past_rhythms, .int v_past_next, .int v_past_count])), (q_past_beats, .inl (cI, 30, .inl f_past_beats)), (q_past_rhythms, .inl (cI, 30, .inl f_past_rhythms))] sz)) 0 0 (va_A [(q0, .inr (6, [.ref q_text, .ref q_past, .ref q_ear, .ref q_tilings, .ref q_mending, .ref q_images, .int v_beats, .int v_rhythm, .int v_draws, .int v_faultAt])), (q_past, .inr (3, [.ref q_past_beats, .ref q_past_rhythms, .int v_past_next, .int v_past_count])), (q_past_beats, .inl (cI, 30, .inl f_past_beats)), (q_past_rhythms, .inl (cI, 30, .inl f_past_rhythms))] sz) := by
  unfold wp_X9_cycle at h
  refine Met.ofW (cc := cX9_cycle) (maxL := 2) (ret := (some .int)) (by decide) rfl ?_
  intro p e s m args below meth c s₁ B hml hv
  obtain ⟨rfl, hsz, hP, hK, hD0, hN⟩ := hv
  have hx := B.exec
  have hb := B.bytes
  have hr := B.returns
  have hts := atoms_spec (ws := wsX9_cycle) B.pre
  have hown : s.vm.findClass RX9 = some m.cls := findClass_of_methodNamed B.named
  have hlocks := B.notSynchronized
  subst hsz
  have hD := hD0.self (sz := s.heap.size)
  generalize hAe : va_A [(q0, .inr (6, [.ref q_text, .ref q_past, .ref q_ear, .ref q_tilings, .ref q_mending, .ref q_images, .int v_beats, .int v_rhythm, .int v_draws, .int v_faultAt])), (q_past, .inr (3, [.ref q_past_beats, .ref q_past_rhythms, .int v_past_next, .int v_past_count])), (q_past_beats, .inl (cI, 30, .inl f_past_beats)), (q_past_rhythms, .inl (cI, 30, .inl f_past_rhythms))] s.heap.size = A at hD ⊢
  have hA : ∀ q : Nat, s.heap.size ≤ q → A q := fun q h => by rw [← hAe]; exact Or.inr h
  clear hAe
  have hS : va_S A s.heap s.heap [] := va_S.rf
  have w11 : ∀ (v_beats : Int32) (v_rhythm : Int32) (v_past_next : Int32) (v_past_count : Int32) (f_past_beats : (Nat → Int32)) (f_past_rhythms : (Nat → Int32)), wp_X9_cycle_j11 Q v_beats v_rhythm v_past_next v_past_count f_past_beats f_past_rhythms → ∀ (H : Heap) (locs : List Loc) (ls : Array Slot), va_P (dC, dI) vwCl [(q0, .inr (6, [.ref q_text, .ref q_past, .ref q_ear, .ref q_tilings, .ref q_mending, .ref q_images, .int v_beats, .int v_rhythm, .int v_draws, .int v_faultAt])), (q_past, .inr (3, [.ref q_past_beats, .ref q_past_rhythms, .int v_past_next, .int v_past_count])), (q_past_beats, .inl (cI, 30, .inl f_past_beats)), (q_past_rhythms, .inl (cI, 30, .inl f_past_rhythms))] H → va_D A [(q0, .inr (6, [.ref q_text, .ref q_past, .ref q_ear, .ref q_tilings, .ref q_mending, .ref q_images, .int v_beats, .int v_rhythm, .int v_draws, .int v_faultAt])), (q_past, .inr (3, [.ref q_past_beats, .ref q_past_rhythms, .int v_past_next, .int v_past_count])), (q_past_beats, .inl (cI, 30, .inl f_past_beats)), (q_past_rhythms, .inl (cI, 30, .inl f_past_rhythms))] → va_S A s.heap H locs → lv_has ls 2 [] → W p l e (headSpec wsX9_cycle (rmX9_cycle)).room s m ([.ref q0, .int p1] : List Value).toArray below meth c H locs 0 0 (MQ below (va_Qi (fun (r : Int32) (u : Int32 × Int32 × Int32 × Int32 × (Nat → Int32) × (Nat → Int32)) => Q r u.1 u.2.1 u.2.2.1 u.2.2.2.1 u.2.2.2.2.1 u.2.2.2.2.2) (fun (u : Int32 × Int32 × Int32 × Int32 × (Nat → Int32) × (Nat → Int32)) (t : State) => va_P (dC, dI) vwCl [(q0, .inr (6, [.ref q_text, .ref q_past, .ref q_ear, .ref q_tilings, .ref q_mending, .ref q_images, .int u.1, .int u.2.1, .int v_draws, .int v_faultAt])), (q_past, .inr (3, [.ref q_past_beats, .ref q_past_rhythms, .int u.2.2.1, .int u.2.2.2.1])), (q_past_beats, .inl (cI, 30, .inl u.2.2.2.2.1)), (q_past_rhythms, .inl (cI, 30, .inl u.2.2.2.2.2))] t.heap ∧ va_D A [(q0, .inr (6, [.ref q_text, .ref q_past, .ref q_ear, .ref q_tilings, .ref q_mending, .ref q_images, .int u.1, .int u.2.1, .int v_draws, .int v_faultAt])), (q_past, .inr (3, [.ref q_past_beats, .ref q_past_rhythms, .int u.2.2.1, .int u.2.2.2.1])), (q_past_beats, .inl (cI, 30, .inl u.2.2.2.2.1)), (q_past_rhythms, .inl (cI, 30, .inl u.2.2.2.2.2))]) A) ([.ref q0, .int p1] : List Value).toArray s 0 0 A) (F0 m 11 ls []) := by
    intro v_beats v_rhythm v_past_next v_past_count f_past_beats f_past_rhythms h H locs ls hP hD hS hl
    unfold wp_X9_cycle_j11 at h
    refine lv_ldc (v := (-1000000002)) hx hb hown (hts (.constant RX9 66 (-1000000002)) (by decide +kernel)) dX9_cycle_11 ?_
    exact W.iret (v := (-1000000002)) hx hb hr (fun t ht hW => ⟨⟨_, (v_beats, v_rhythm, v_past_next, v_past_count, f_past_beats, f_past_rhythms), rfl, h, by rw [ht]; exact hP, hD⟩, hS.F ht⟩) hS.2.2 dX9_cycle_13
  have hl := lv_entry ([.ref q0, .int p1]) (n := 2) (Nat.le_of_ble_eq_true rfl)
  rw [lg_entry_eq]
  generalize (lg_sl ([.ref q0, .int p1]) ++ List.replicate (2 - (lg_sl ([.ref q0, .int p1])).length) Slot.unset).toArray = ls at hl ⊢
  have hl : lv_has ls 2 [(0, .ref q0), (1, .int p1)] := hl
  refine lv_iload_n hx hb dX9_cycle_0 rfl (lv_at hl 1 rfl) ?_
  refine lv_iconst (v := 1) hx hb dX9_cycle_1 (by decide) ?_
  refine lv_icmp_lt (tgt := 11) hx hb dX9_cycle_2 (by decide) (fun c1 => ?_) (fun c1 => ?_)
  · replace h := h.1 c1
    exact w11 v_beats v_rhythm v_past_next v_past_count f_past_beats f_past_rhythms h s.heap [] ls hP hD hS (lv_sub hl [] rfl)
  · replace h := h.2 c1
    refine lv_iload_n hx hb dX9_cycle_5 rfl (lv_at hl 1 rfl) ?_
    refine lv_bipush (v := 24) hx hb dX9_cycle_6 (by decide) ?_
    refine lv_icmp_le (tgt := 14) hx hb dX9_cycle_8 (by decide) (fun c2 => ?_) (fun c2 => ?_)
    · replace h := h.1 c2
      refine lv_aload_n hx hb dX9_cycle_14 rfl (lv_at hl 0 rfl) ?_
      refine lv_iload_n hx hb dX9_cycle_15 rfl (lv_at hl 1 rfl) ?_
      refine lv_aload_n hx hb dX9_cycle_16 rfl (lv_at hl 0 rfl) ?_
      refine va_get (D := (dC, dI)) (ci := 6) (v := .int v_rhythm) (C := RX9) (T := TX9) (N := 10) hx hb hts iX9_cycle_X9 hown hK hP 0 rfl rfl 7 (by decide) (hts (.fieldLink RX9 57 "TilingBeats" "rhythm" "I") (by decide +kernel)) (fun _ h9 => h9) rfl dX9_cycle_17 ?_
      refine lv_iload_n hx hb dX9_cycle_20 rfl (lv_at hl 1 rfl) ?_
      refine vs_calli (va_runSN (As := [.int p1]) (rest := [.int v_rhythm, .int p1, .ref q0]) ⟨hx, hb, hml, hown, hts⟩ (c_X6_full l p1 _ h) ⟨va_cnB 1 hts gX9_cycle_X6_full_n189 rfl rfl rfl (nw_54 hN) (hts (.initialized RX6) (by decide +kernel)) (by decide +kernel) ⟨Nat.le_of_ble_eq_true rfl, Nat.le_of_ble_eq_true rfl⟩, hts (.static yX6_full) (by decide +kernel), trivial⟩ ⟨fun a U g mk q => ⟨q.1, nW_call q.2⟩, fun U hU hW => ⟨rfl, nW_warm hW hN⟩⟩ rfl rfl hl.1 rfl (lv_room (Nat.le_of_ble_eq_true rfl)) dX9_cycle_21 ⟨Nat.le_of_ble_eq_true rfl, Nat.le_of_ble_eq_true rfl⟩) (fun r3 h => ?_)
      refine lv_iand hx hb dX9_cycle_24 ?_
      have hPc := hP.sub (ws' := [(q0, .inr (6, [.ref q_text, .ref q_past, .ref q_ear, .ref q_tilings, .ref q_mending, .ref q_images, .int v_beats, .int v_rhythm, .int v_draws, .int v_faultAt])), (q_past, .inr (3, [.ref q_past_beats, .ref q_past_rhythms, .int v_past_next, .int v_past_count])), (q_past_beats, .inl (cI, 30, .inl f_past_beats)), (q_past_rhythms, .inl (cI, 30, .inl f_past_rhythms))]) [0, 1, 2, 3] rfl
      have hDc := hD.sub (ws' := [(q0, .inr (6, [.ref q_text, .ref q_past, .ref q_ear, .ref q_tilings, .ref q_mending, .ref q_images, .int v_beats, .int v_rhythm, .int v_draws, .int v_faultAt])), (q_past, .inr (3, [.ref q_past_beats, .ref q_past_rhythms, .int v_past_next, .int v_past_count])), (q_past_beats, .inl (cI, 30, .inl f_past_beats)), (q_past_rhythms, .inl (cI, 30, .inl f_past_rhythms))]) [0, 1, 2, 3] (by decide) rfl
      have hFc := va_free (wc := [(q0, .inr (6, [.ref q_text, .ref q_past, .ref q_ear, .ref q_tilings, .ref q_mending, .ref q_images, .int v_beats, .int v_rhythm, .int v_draws, .int v_faultAt])), (q_past, .inr (3, [.ref q_past_beats, .ref q_past_rhythms, .int v_past_next, .int v_past_count])), (q_past_beats, .inl (cI, 30, .inl f_past_beats)), (q_past_rhythms, .inl (cI, 30, .inl f_past_rhythms))]) hD hS hA [0, 1, 2, 3] rfl
      refine va_calli (va_runV (As := [.int p1, .int (v_rhythm &&& r3)]) (rest := []) ⟨hx, hb, hml, hown, hts⟩ (c_X9_change l dC dI cI cZ q0 q_text q_past q_ear q_tilings q_mending q_images q_past_beats q_past_rhythms s.heap.size v_beats v_rhythm v_draws v_faultAt v_past_next v_past_count f_past_beats f_past_rhythms p1 (v_rhythm &&& r3) _ h) (cwV 2 hts gX9_cycle_X9_change rfl rfl rfl (by decide +kernel) ⟨Nat.le_of_ble_eq_true rfl, Nat.le_of_ble_eq_true rfl⟩) ⟨fun a U g mk q => ⟨q.1, q.2.1, q.2.2.1, va_K.moved (u := U) (U := U.calling g mk a) (Vm.Alike.refl U.vm) q.2.2.2.1, q.2.2.2.2.1, nW_call q.2.2.2.2.2⟩, va_recv hK hPc (ci := 6) (q0 := 0) rfl rfl, fun U hU hW => ⟨rfl, by rw [hU], by rw [hU]; exact hPc, va_K.moved hW.alike hK, hDc.weaken (fun _ _ _ _ => trivial), nW_warm hW hN⟩⟩ rfl rfl hl.1 rfl (lv_room (Nat.le_of_ble_eq_true rfl)) dX9_cycle_25 ⟨Nat.le_of_ble_eq_true rfl, Nat.le_of_ble_eq_true rfl⟩) hS (fun q _ h => hFc q h) hFc (fun r4 u t H1 locs ht hvm hw hB hz1 hk1 hS => ?_)
      obtain ⟨u5, u6, u7, u8, u9, u10⟩ := u
      obtain ⟨hP1, hD1⟩ := hB
      rw [ht] at hP1
      replace h := hw
      try dsimp only at h
      obtain ⟨hP, hD⟩ := va_join (wr := []) (w1 := [(q0, .inr (6, [.ref q_text, .ref q_past, .ref q_ear, .ref q_tilings, .ref q_mending, .ref q_images, .int u5, .int u6, .int v_draws, .int v_faultAt])), (q_past, .inr (3, [.ref q_past_beats, .ref q_past_rhythms, .int u7, .int u8])), (q_past_beats, .inl (cI, 30, .inl u9)), (q_past_rhythms, .inl (cI, 30, .inl u10))]) hP hD [0, 1, 2, 3] [] rfl rfl (by decide) (by decide) hk1 hFc hP1 hD1
      clear hP1 hD1 hFc hDc hPc hk1 hz1 hw hvm ht
      generalize H1 = H at hP hS ⊢
      have hP : va_P (dC, dI) vwCl [(q0, .inr (6, [.ref q_text, .ref q_past, .ref q_ear, .ref q_tilings, .ref q_mending, .ref q_images, .int u5, .int u6, .int v_draws, .int v_faultAt])), (q_past, .inr (3, [.ref q_past_beats, .ref q_past_rhythms, .int u7, .int u8])), (q_past_beats, .inl (cI, 30, .inl u9)), (q_past_rhythms, .inl (cI, 30, .inl u10))] H := hP.sub [0, 1, 2, 3] rfl
      have hD : va_D A [(q0, .inr (6, [.ref q_text, .ref q_past, .ref q_ear, .ref q_tilings, .ref q_mending, .ref q_images, .int u5, .int u6, .int v_draws, .int v_faultAt])), (q_past, .inr (3, [.ref q_past_beats, .ref q_past_rhythms, .int u7, .int u8])), (q_past_beats, .inl (cI, 30, .inl u9)), (q_past_rhythms, .inl (cI, 30, .inl u10))] := hD.sub [0, 1, 2, 3] (by decide) rfl
      refine vs_calli (va_runS (As := [.int r4]) (rest := []) ⟨hx, hb, hml, hown, hts⟩ (c_J6_bitCount_0f7a4 l r4 _ h) (va_cwS 1 hts gX9_cycle_J6_bitCount_0f7a4 rfl rfl rfl (by decide +kernel) ⟨Nat.le_of_ble_eq_true rfl, Nat.le_of_ble_eq_true rfl⟩) ⟨fun a U g mk q => ⟨q.1, nW_call q.2⟩, fun U hU hW => ⟨rfl, nW_warm hW hN⟩⟩ rfl rfl hl.1 rfl (lv_room (Nat.le_of_ble_eq_true rfl)) dX9_cycle_28 ⟨Nat.le_of_ble_eq_true rfl, Nat.le_of_ble_eq_true rfl⟩) (fun r11 h => ?_)
      exact W.iret (v := r11) hx hb hr (fun t ht hW => ⟨⟨_, (u5, u6, u7, u8, u9, u10), rfl, h, by rw [ht]; exact hP, hD⟩, hS.F ht⟩) hS.2.2 dX9_cycle_31
    · replace h := h.2 c2
      exact w11 v_beats v_rhythm v_past_next v_past_count f_past_beats f_past_rhythms h s.heap [] ls hP hD hS (lv_sub hl [] rfl)

def wp_X9_draw (v_draws : Int32) (p1 : Int32) (Q : Int32 → Int32 → Prop) : Prop := (¬ (2147483648 : Int64) = 0) ∧ ∀ x1 : Int32, x1 = ((((((v_draws.toInt64) * 1103515245) + 12345) - (((v_draws.toInt64) * 1103515245) + 12345) / 2147483648 * 2147483648) : Int64).toInt32) → (¬ (65536 : Int32) = 0) ∧ wp_X6_leftOver (x1 / 65536) p1 fun (r2 : Int32) => Q r2 x1
abbrev rmX9_draw : Room := { frames := 1, cells := 0, slots := 0, locals := 22 }
set_option maxRecDepth 20000 in
theorem iX9_draw_X9 : ∀ w ∈ wsX90, w ∈ wsX9_draw := by decide +kernel
set_option maxHeartbeats 4000000 in
set_option maxRecDepth 100000 in
theorem c_X9_draw (l : Launch) (dC : Nat → ClassId) (dI : Nat → Nat → Nat) (cI cZ : ClassId) (q0 q_text q_past q_ear q_tilings q_mending q_images : Nat) (sz : Nat) (v_beats : Int32) (v_rhythm : Int32) (v_draws : Int32) (v_faultAt : Int32) (p1 : Int32) (Q : Int32 → Int32 → Prop) (h : wp_X9_draw v_draws p1 Q) : Met l yX9_draw wsX9_draw (rmX9_draw) (va_Pc [.ref q0, .int p1] (fun U => U.heap.size = sz ∧ va_P (dC, dI) vwCl [(q0, .inr (6, [.ref q_text, .ref q_past, .ref q_ear, .ref q_tilings, .ref q_mending, .ref q_images, .int v_beats, .int v_rhythm, .int v_draws, .int v_faultAt]))] U.heap ∧ va_K (dC, dI) vwCl (tyZ cI cZ) U ∧ va_D (fun _ => True) [(q0, .inr (6, [.ref q_text, .ref q_past, .ref q_ear, .ref q_tilings, .ref q_mending, .ref q_images, .int v_beats, .int v_rhythm, .int v_draws, .int v_faultAt]))] ∧ nW U)) (va_Qi (fun (r : Int32) (u : Int32) => Q r u) (fun (u : Int32) (t : State) => va_P (dC, dI) vwCl [(q0, .inr (6, [.ref q_text, .ref q_past, .ref q_ear, .ref q_tilings, .ref q_mending, .ref q_images, .int v_beats, .int v_rhythm, .int u, .int v_faultAt]))] t.heap ∧ va_D (va_A [(q0, .inr (6, [.ref q_text, .ref q_past, .ref q_ear, .ref q_tilings, .ref q_mending, .ref q_images, .int v_beats, .int v_rhythm, .int v_draws, .int v_faultAt]))] sz) [(q0, .inr (6, [.ref q_text, .ref q_past, .ref q_ear, .ref q_tilings, .ref q_mending, .ref q_images, .int v_beats, .int v_rhythm, .int u, .int v_faultAt]))]) (va_A [(q0, .inr (6, [.ref q_text, .ref q_past, .ref q_ear, .ref q_tilings, .ref q_mending, .ref q_images, .int v_beats, .int v_rhythm, .int v_draws, .int v_faultAt]))] sz)) 0 0 (va_A [(q0, .inr (6, [.ref q_text, .ref q_past, .ref q_ear, .ref q_tilings, .ref q_mending, .ref q_images, .int v_beats, .int v_rhythm, .int v_draws, .int v_faultAt]))] sz) := by
  unfold wp_X9_draw at h
  refine Met.ofW (cc := cX9_draw) (maxL := 2) (ret := (some .int)) (by decide) rfl ?_
  intro p e s m args below meth c s₁ B hml hv
  obtain ⟨rfl, hsz, hP, hK, hD0, hN⟩ := hv
  have hx := B.exec
  have hb := B.bytes
  have hr := B.returns
  have hts := atoms_spec (ws := wsX9_draw) B.pre
  have hown : s.vm.findClass RX9 = some m.cls := findClass_of_methodNamed B.named
  have hlocks := B.notSynchronized
  subst hsz
  have hD := hD0.self (sz := s.heap.size)
  generalize hAe : va_A [(q0, .inr (6, [.ref q_text, .ref q_past, .ref q_ear, .ref q_tilings, .ref q_mending, .ref q_images, .int v_beats, .int v_rhythm, .int v_draws, .int v_faultAt]))] s.heap.size = A at hD ⊢
  have hA : ∀ q : Nat, s.heap.size ≤ q → A q := fun q h => by rw [← hAe]; exact Or.inr h
  clear hAe
  have hS : va_S A s.heap s.heap [] := va_S.rf
  have hl := lv_entry ([.ref q0, .int p1]) (n := 2) (Nat.le_of_ble_eq_true rfl)
  rw [lg_entry_eq]
  generalize (lg_sl ([.ref q0, .int p1]) ++ List.replicate (2 - (lg_sl ([.ref q0, .int p1])).length) Slot.unset).toArray = ls at hl ⊢
  have hl : lv_has ls 2 [(0, .ref q0), (1, .int p1)] := hl
  refine lv_aload_n hx hb dX9_draw_0 rfl (lv_at hl 0 rfl) ?_
  refine lv_aload_n hx hb dX9_draw_1 rfl (lv_at hl 0 rfl) ?_
  refine va_get (D := (dC, dI)) (ci := 6) (v := .int v_draws) (C := RX9) (T := TX9) (N := 10) hx hb hts iX9_draw_X9 hown hK hP 0 rfl rfl 8 (by decide) (hts (.fieldLink RX9 60 "TilingBeats" "draws" "I") (by decide +kernel)) (fun _ h9 => h9) rfl dX9_draw_2 ?_
  refine lv_i2l (v := (v_draws.toInt64)) hx hb dX9_draw_5 rfl ?_
  refine lv_ldc2 (v := 1103515245) hx hb hown (hts (.constantLong RX9 232 (1103515245)) (by decide +kernel)) dX9_draw_6 ?_
  refine lv_lmul hx hb dX9_draw_9 ?_
  refine lv_ldc2 (v := 12345) hx hb hown (hts (.constantLong RX9 234 (12345)) (by decide +kernel)) dX9_draw_10 ?_
  refine lv_ladd hx hb dX9_draw_13 ?_
  refine lv_ldc2 (v := 2147483648) hx hb hown (hts (.constantLong RX9 236 (2147483648)) (by decide +kernel)) dX9_draw_14 ?_
  refine lv_lrem hx hb dX9_draw_17 h.1 ?_
  replace h := h.2
  refine lv_l2i (v := ((((((v_draws.toInt64) * 1103515245) + 12345) - (((v_draws.toInt64) * 1103515245) + 12345) / 2147483648 * 2147483648) : Int64).toInt32)) hx hb dX9_draw_18 rfl ?_
  refine lv_topi (fun x1 ex1 => ?_)
  replace h := h x1 ex1
  refine va_put (D := (dC, dI)) (ci := 6) (v := .int x1) (ty := .int) (C := RX9) (T := TX9) (N := 10) hx hb hts iX9_draw_X9 tyX9 tyX9_ok nmX9 hown hK hP hD hS 0 rfl rfl 8 (by decide) (hts (.fieldLink RX9 60 "TilingBeats" "draws" "I") (by decide +kernel)) (fun _ h9 => h9) rfl (by decide +kernel) rfl rfl (Nat.le_of_ble_eq_true rfl) dX9_draw_19 (fun H locs hP hD hS => ?_)
  have hP : va_P (dC, dI) vwCl [(q0, .inr (6, [.ref q_text, .ref q_past, .ref q_ear, .ref q_tilings, .ref q_mending, .ref q_images, .int v_beats, .int v_rhythm, .int x1, .int v_faultAt]))] H := hP
  have hD : va_D A [(q0, .inr (6, [.ref q_text, .ref q_past, .ref q_ear, .ref q_tilings, .ref q_mending, .ref q_images, .int v_beats, .int v_rhythm, .int x1, .int v_faultAt]))] := hD
  refine lv_aload_n hx hb dX9_draw_22 rfl (lv_at hl 0 rfl) ?_
  refine va_get (D := (dC, dI)) (ci := 6) (v := .int x1) (C := RX9) (T := TX9) (N := 10) hx hb hts iX9_draw_X9 hown hK hP 0 rfl rfl 8 (by decide) (hts (.fieldLink RX9 60 "TilingBeats" "draws" "I") (by decide +kernel)) (fun _ h9 => h9) rfl dX9_draw_23 ?_
  refine lv_ldc (v := 65536) hx hb hown (hts (.constant RX9 238 (65536)) (by decide +kernel)) dX9_draw_26 ?_
  refine lv_idiv hx hb dX9_draw_28 h.1 ?_
  replace h := h.2
  refine lv_iload_n hx hb dX9_draw_29 rfl (lv_at hl 1 rfl) ?_
  refine vs_calli (va_runSN (As := [.int (x1 / 65536), .int p1]) (rest := []) ⟨hx, hb, hml, hown, hts⟩ (c_X6_leftOver l (x1 / 65536) p1 _ h) ⟨va_cnB 2 hts gX9_draw_X6_leftOver_n239 rfl rfl rfl (nw_56 hN) (hts (.initialized RX6) (by decide +kernel)) (by decide +kernel) ⟨Nat.le_of_ble_eq_true rfl, Nat.le_of_ble_eq_true rfl⟩, hts (.static yX6_leftOver) (by decide +kernel), trivial⟩ ⟨fun a U g mk q => ⟨q.1, nW_call q.2⟩, fun U hU hW => ⟨rfl, nW_warm hW hN⟩⟩ rfl rfl hl.1 rfl (lv_room (Nat.le_of_ble_eq_true rfl)) dX9_draw_30 ⟨Nat.le_of_ble_eq_true rfl, Nat.le_of_ble_eq_true rfl⟩) (fun r2 h => ?_)
  exact W.iret (v := r2) hx hb hr (fun t ht hW => ⟨⟨_, x1, rfl, h, by rw [ht]; exact hP, hD⟩, hS.F ht⟩) hS.2.2 dX9_draw_33

def wp_X9_changeByDraws_j124 (Q : Int32 → Int32 → Int32 → Int32 → Int32 → (Nat → Int32) → (Nat → Int32) → Prop) (v_beats : Int32) (v_rhythm : Int32) (v_draws : Int32) (v_past_next : Int32) (v_past_count : Int32) (f_past_beats : (Nat → Int32)) (f_past_rhythms : (Nat → Int32)) : Prop := Q v_beats v_rhythm v_draws v_past_next v_past_count f_past_beats f_past_rhythms
def wp_X9_changeByDraws (v_beats : Int32) (v_rhythm : Int32) (v_draws : Int32) (v_past_next : Int32) (v_past_count : Int32) (f_past_beats : (Nat → Int32)) (f_past_rhythms : (Nat → Int32)) (Q : Int32 → Int32 → Int32 → Int32 → Int32 → (Nat → Int32) → (Nat → Int32) → Prop) : Prop := wp_X9_draw v_draws 8 fun (r1 : Int32) (u2 : Int32) => (4 < r1 → ((¬ r1 = 5 → ((¬ r1 = 6 → (wp_X6_mirrored v_beats v_rhythm fun (r6 : Int32) => wp_X9_change v_beats v_rhythm v_past_next v_past_count f_past_beats f_past_rhythms v_beats r6 fun (r7 : Int32) (u8 : Int32) (u9 : Int32) (u10 : Int32) (u11 : Int32) (u12 : (Nat → Int32)) (u13 : (Nat → Int32)) => wp_X9_changeByDraws_j124 Q u8 u9 u2 u10 u11 u12 u13)) ∧ (r1 = 6 → (wp_X6_inverted v_beats v_rhythm fun (r14 : Int32) => wp_X9_change v_beats v_rhythm v_past_next v_past_count f_past_beats f_past_rhythms v_beats r14 fun (r15 : Int32) (u16 : Int32) (u17 : Int32) (u18 : Int32) (u19 : Int32) (u20 : (Nat → Int32)) (u21 : (Nat → Int32)) => wp_X9_changeByDraws_j124 Q u16 u17 u2 u18 u19 u20 u21)))) ∧ (r1 = 5 → (wp_X9_draw u2 v_beats fun (r22 : Int32) (u23 : Int32) => wp_X6_moved v_beats v_rhythm r22 fun (r24 : Int32) => wp_X9_change v_beats v_rhythm v_past_next v_past_count f_past_beats f_past_rhythms v_beats r24 fun (r25 : Int32) (u26 : Int32) (u27 : Int32) (u28 : Int32) (u29 : Int32) (u30 : (Nat → Int32)) (u31 : (Nat → Int32)) => wp_X9_changeByDraws_j124 Q u26 u27 u23 u28 u29 u30 u31)))) ∧ (¬ 4 < r1 → (wp_X9_draw u2 v_beats fun (r32 : Int32) (u33 : Int32) => wp_X9_change v_beats v_rhythm v_past_next v_past_count f_past_beats f_past_rhythms v_beats (v_rhythm ^^^ (1 <<< (r32 &&& 31))) fun (r34 : Int32) (u35 : Int32) (u36 : Int32) (u37 : Int32) (u38 : Int32) (u39 : (Nat → Int32)) (u40 : (Nat → Int32)) => wp_X9_changeByDraws_j124 Q u35 u36 u33 u37 u38 u39 u40))
abbrev rmX9_changeByDraws : Room := { frames := 4, cells := 0, slots := 0, locals := 86 }
set_option maxRecDepth 20000 in
theorem iX9_changeByDraws_X9 : ∀ w ∈ wsX90, w ∈ wsX9_changeByDraws := by decide +kernel
set_option maxHeartbeats 4000000 in
set_option maxRecDepth 100000 in
theorem c_X9_changeByDraws (l : Launch) (dC : Nat → ClassId) (dI : Nat → Nat → Nat) (cI cZ : ClassId) (q0 q_text q_past q_ear q_tilings q_mending q_images q_past_beats q_past_rhythms : Nat) (sz : Nat) (v_beats : Int32) (v_rhythm : Int32) (v_draws : Int32) (v_faultAt : Int32) (v_past_next : Int32) (v_past_count : Int32) (f_past_beats : (Nat → Int32)) (f_past_rhythms : (Nat → Int32))  (Q : Int32 → Int32 → Int32 → Int32 → Int32 → (Nat → Int32) → (Nat → Int32) → Prop) (h : wp_X9_changeByDraws v_beats v_rhythm v_draws v_past_next v_past_count f_past_beats f_past_rhythms Q) : Met l yX9_changeByDraws wsX9_changeByDraws (rmX9_changeByDraws) (va_Pc [.ref q0] (fun U => U.heap.size = sz ∧ va_P (dC, dI) vwCl [(q0, .inr (6, [.ref q_text, .ref q_past, .ref q_ear, .ref q_tilings, .ref q_mending, .ref q_images, .int v_beats, .int v_rhythm, .int v_draws, .int v_faultAt])), (q_past, .inr (3, [.ref q_past_beats, .ref q_past_rhythms, .int v_past_next, .int v_past_count])), (q_past_beats, .inl (cI, 30, .inl f_past_beats)), (q_past_rhythms, .inl (cI, 30, .inl f_past_rhythms))] U.heap ∧ va_K (dC, dI) vwCl (tyZ cI cZ) U ∧ va_D (fun _ => True) [(q0, .inr (6, [.ref q_text, .ref q_past, .ref q_ear, .ref q_tilings, .ref q_mending, .ref q_images, .int v_beats, .int v_rhythm, .int v_draws, .int v_faultAt])), (q_past, .inr (3, [.ref q_past_beats, .ref q_past_rhythms, .int v_past_next, .int v_past_count])), (q_past_beats, .inl (cI, 30, .inl f_past_beats)), (q_past_rhythms, .inl (cI, 30, .inl f_past_rhythms))] ∧ nW U)) (va_Qv (fun (u : Int32 × Int32 × Int32 × Int32 × Int32 × (Nat → Int32) × (Nat → Int32)) => Q u.1 u.2.1 u.2.2.1 u.2.2.2.1 u.2.2.2.2.1 u.2.2.2.2.2.1 u.2.2.2.2.2.2) (fun (u : Int32 × Int32 × Int32 × Int32 × Int32 × (Nat → Int32) × (Nat → Int32)) (t : State) => va_P (dC, dI) vwCl [(q0, .inr (6, [.ref q_text, .ref q_past, .ref q_ear, .ref q_tilings, .ref q_mending, .ref q_images, .int u.1, .int u.2.1, .int u.2.2.1, .int v_faultAt])), (q_past, .inr (3, [.ref q_past_beats, .ref q_past_rhythms, .int u.2.2.2.1, .int u.2.2.2.2.1])), (q_past_beats, .inl (cI, 30, .inl u.2.2.2.2.2.1)), (q_past_rhythms, .inl (cI, 30, .inl u.2.2.2.2.2.2))] t.heap ∧ va_D (va_A [(q0, .inr (6, [.ref q_text, .ref q_past, .ref q_ear, .ref q_tilings, .ref q_mending, .ref q_images, .int v_beats, .int v_rhythm, .int v_draws, .int v_faultAt])), (q_past, .inr (3, [.ref q_past_beats, .ref q_past_rhythms, .int v_past_next, .int v_past_count])), (q_past_beats, .inl (cI, 30, .inl f_past_beats)), (q_past_rhythms, .inl (cI, 30, .inl f_past_rhythms))] sz) [(q0, .inr (6, [.ref q_text, .ref q_past, .ref q_ear, .ref q_tilings, .ref q_mending, .ref q_images, .int u.1, .int u.2.1, .int u.2.2.1, .int v_faultAt])), (q_past, .inr (3, [.ref q_past_beats, .ref q_past_rhythms, .int u.2.2.2.1, .int u.2.2.2.2.1])), (q_past_beats, .inl (cI, 30, .inl u.2.2.2.2.2.1)), (q_past_rhythms, .inl (cI, 30, .inl u.2.2.2.2.2.2))]) (va_A [(q0, .inr (6, [.ref q_text, .ref q_past, .ref q_ear, .ref q_tilings, .ref q_mending, .ref q_images, .int v_beats, .int v_rhythm, .int v_draws, .int v_faultAt])), (q_past, .inr (3, [.ref q_past_beats, .ref q_past_rhythms, .int v_past_next, .int v_past_count])), (q_past_beats, .inl (cI, 30, .inl f_past_beats)), (q_past_rhythms, .inl (cI, 30, .inl f_past_rhythms))] sz)) 0 0 (va_A [(q0, .inr (6, [.ref q_text, .ref q_past, .ref q_ear, .ref q_tilings, .ref q_mending, .ref q_images, .int v_beats, .int v_rhythm, .int v_draws, .int v_faultAt])), (q_past, .inr (3, [.ref q_past_beats, .ref q_past_rhythms, .int v_past_next, .int v_past_count])), (q_past_beats, .inl (cI, 30, .inl f_past_beats)), (q_past_rhythms, .inl (cI, 30, .inl f_past_rhythms))] sz) := by
  unfold wp_X9_changeByDraws at h
  refine Met.ofW (cc := cX9_changeByDraws) (maxL := 2) (ret := none) (by decide) rfl ?_
  intro p e s m args below meth c s₁ B hml hv
  obtain ⟨rfl, hsz, hP, hK, hD0, hN⟩ := hv
  have hx := B.exec
  have hb := B.bytes
  have hr := B.returns
  have hts := atoms_spec (ws := wsX9_changeByDraws) B.pre
  have hown : s.vm.findClass RX9 = some m.cls := findClass_of_methodNamed B.named
  have hlocks := B.notSynchronized
  subst hsz
  have hD := hD0.self (sz := s.heap.size)
  generalize hAe : va_A [(q0, .inr (6, [.ref q_text, .ref q_past, .ref q_ear, .ref q_tilings, .ref q_mending, .ref q_images, .int v_beats, .int v_rhythm, .int v_draws, .int v_faultAt])), (q_past, .inr (3, [.ref q_past_beats, .ref q_past_rhythms, .int v_past_next, .int v_past_count])), (q_past_beats, .inl (cI, 30, .inl f_past_beats)), (q_past_rhythms, .inl (cI, 30, .inl f_past_rhythms))] s.heap.size = A at hD ⊢
  have hA : ∀ q : Nat, s.heap.size ≤ q → A q := fun q h => by rw [← hAe]; exact Or.inr h
  clear hAe
  have hS : va_S A s.heap s.heap [] := va_S.rf
  have w124 : ∀ (v_beats : Int32) (v_rhythm : Int32) (v_draws : Int32) (v_past_next : Int32) (v_past_count : Int32) (f_past_beats : (Nat → Int32)) (f_past_rhythms : (Nat → Int32)), wp_X9_changeByDraws_j124 Q v_beats v_rhythm v_draws v_past_next v_past_count f_past_beats f_past_rhythms → ∀ (H : Heap) (locs : List Loc) (ls : Array Slot), va_P (dC, dI) vwCl [(q0, .inr (6, [.ref q_text, .ref q_past, .ref q_ear, .ref q_tilings, .ref q_mending, .ref q_images, .int v_beats, .int v_rhythm, .int v_draws, .int v_faultAt])), (q_past, .inr (3, [.ref q_past_beats, .ref q_past_rhythms, .int v_past_next, .int v_past_count])), (q_past_beats, .inl (cI, 30, .inl f_past_beats)), (q_past_rhythms, .inl (cI, 30, .inl f_past_rhythms))] H → va_D A [(q0, .inr (6, [.ref q_text, .ref q_past, .ref q_ear, .ref q_tilings, .ref q_mending, .ref q_images, .int v_beats, .int v_rhythm, .int v_draws, .int v_faultAt])), (q_past, .inr (3, [.ref q_past_beats, .ref q_past_rhythms, .int v_past_next, .int v_past_count])), (q_past_beats, .inl (cI, 30, .inl f_past_beats)), (q_past_rhythms, .inl (cI, 30, .inl f_past_rhythms))] → va_S A s.heap H locs → lv_has ls 2 [] → W p l e (headSpec wsX9_changeByDraws (rmX9_changeByDraws)).room s m ([.ref q0] : List Value).toArray below meth c H locs 0 0 (MQ below (va_Qv (fun (u : Int32 × Int32 × Int32 × Int32 × Int32 × (Nat → Int32) × (Nat → Int32)) => Q u.1 u.2.1 u.2.2.1 u.2.2.2.1 u.2.2.2.2.1 u.2.2.2.2.2.1 u.2.2.2.2.2.2) (fun (u : Int32 × Int32 × Int32 × Int32 × Int32 × (Nat → Int32) × (Nat → Int32)) (t : State) => va_P (dC, dI) vwCl [(q0, .inr (6, [.ref q_text, .ref q_past, .ref q_ear, .ref q_tilings, .ref q_mending, .ref q_images, .int u.1, .int u.2.1, .int u.2.2.1, .int v_faultAt])), (q_past, .inr (3, [.ref q_past_beats, .ref q_past_rhythms, .int u.2.2.2.1, .int u.2.2.2.2.1])), (q_past_beats, .inl (cI, 30, .inl u.2.2.2.2.2.1)), (q_past_rhythms, .inl (cI, 30, .inl u.2.2.2.2.2.2))] t.heap ∧ va_D A [(q0, .inr (6, [.ref q_text, .ref q_past, .ref q_ear, .ref q_tilings, .ref q_mending, .ref q_images, .int u.1, .int u.2.1, .int u.2.2.1, .int v_faultAt])), (q_past, .inr (3, [.ref q_past_beats, .ref q_past_rhythms, .int u.2.2.2.1, .int u.2.2.2.2.1])), (q_past_beats, .inl (cI, 30, .inl u.2.2.2.2.2.1)), (q_past_rhythms, .inl (cI, 30, .inl u.2.2.2.2.2.2))]) A) ([.ref q0] : List Value).toArray s 0 0 A) (F0 m 124 ls []) := by
    intro v_beats v_rhythm v_draws v_past_next v_past_count f_past_beats f_past_rhythms h H locs ls hP hD hS hl
    unfold wp_X9_changeByDraws_j124 at h
    exact W.vret hx hb hr (fun t ht hW => ⟨⟨(v_beats, v_rhythm, v_draws, v_past_next, v_past_count, f_past_beats, f_past_rhythms), rfl, h, by rw [ht]; exact hP, hD⟩, hS.F ht⟩) hS.2.2 dX9_changeByDraws_124
  have hl := lv_entry ([.ref q0]) (n := 2) (Nat.le_of_ble_eq_true rfl)
  rw [lg_entry_eq]
  generalize (lg_sl ([.ref q0]) ++ List.replicate (2 - (lg_sl ([.ref q0])).length) Slot.unset).toArray = ls at hl ⊢
  have hl : lv_has ls 2 [(0, .ref q0)] := hl
  refine lv_aload_n hx hb dX9_changeByDraws_0 rfl (lv_at hl 0 rfl) ?_
  refine lv_bipush (v := 8) hx hb dX9_changeByDraws_1 (by decide) ?_
  have hPc := hP.sub (ws' := [(q0, .inr (6, [.ref q_text, .ref q_past, .ref q_ear, .ref q_tilings, .ref q_mending, .ref q_images, .int v_beats, .int v_rhythm, .int v_draws, .int v_faultAt]))]) [0] rfl
  have hDc := hD.sub (ws' := [(q0, .inr (6, [.ref q_text, .ref q_past, .ref q_ear, .ref q_tilings, .ref q_mending, .ref q_images, .int v_beats, .int v_rhythm, .int v_draws, .int v_faultAt]))]) [0] (by decide) rfl
  have hFc := va_free (wc := [(q0, .inr (6, [.ref q_text, .ref q_past, .ref q_ear, .ref q_tilings, .ref q_mending, .ref q_images, .int v_beats, .int v_rhythm, .int v_draws, .int v_faultAt]))]) hD hS hA [0] rfl
  refine va_calli (va_runV (As := [.int 8]) (rest := []) ⟨hx, hb, hml, hown, hts⟩ (c_X9_draw l dC dI cI cZ q0 q_text q_past q_ear q_tilings q_mending q_images s.heap.size v_beats v_rhythm v_draws v_faultAt 8 _ h) (cwV 1 hts gX9_changeByDraws_X9_draw rfl rfl rfl (by decide +kernel) ⟨Nat.le_of_ble_eq_true rfl, Nat.le_of_ble_eq_true rfl⟩) ⟨fun a U g mk q => ⟨q.1, q.2.1, q.2.2.1, va_K.moved (u := U) (U := U.calling g mk a) (Vm.Alike.refl U.vm) q.2.2.2.1, q.2.2.2.2.1, nW_call q.2.2.2.2.2⟩, va_recv hK hPc (ci := 6) (q0 := 0) rfl rfl, fun U hU hW => ⟨rfl, by rw [hU], by rw [hU]; exact hPc, va_K.moved hW.alike hK, hDc.weaken (fun _ _ _ _ => trivial), nW_warm hW hN⟩⟩ rfl rfl hl.1 rfl (lv_room (Nat.le_of_ble_eq_true rfl)) dX9_changeByDraws_3 ⟨Nat.le_of_ble_eq_true rfl, Nat.le_of_ble_eq_true rfl⟩) hS (fun q _ h => hFc q h) hFc (fun r1 u t H1 locs ht hvm hw hB hz1 hk1 hS => ?_)
  obtain ⟨u2, rfl⟩ : ∃ z, z = u := ⟨_, rfl⟩
  obtain ⟨hP1, hD1⟩ := hB
  rw [ht] at hP1
  replace h := hw
  try dsimp only at h
  obtain ⟨hP, hD⟩ := va_join (wr := [(q_past, .inr (3, [.ref q_past_beats, .ref q_past_rhythms, .int v_past_next, .int v_past_count])), (q_past_beats, .inl (cI, 30, .inl f_past_beats)), (q_past_rhythms, .inl (cI, 30, .inl f_past_rhythms))]) (w1 := [(q0, .inr (6, [.ref q_text, .ref q_past, .ref q_ear, .ref q_tilings, .ref q_mending, .ref q_images, .int v_beats, .int v_rhythm, .int u2, .int v_faultAt]))]) hP hD [0] [1, 2, 3] rfl rfl (by decide) (by decide) hk1 hFc hP1 hD1
  clear hP1 hD1 hFc hDc hPc hk1 hz1 hw hvm ht
  generalize H1 = H at hP hS ⊢
  have hP : va_P (dC, dI) vwCl [(q0, .inr (6, [.ref q_text, .ref q_past, .ref q_ear, .ref q_tilings, .ref q_mending, .ref q_images, .int v_beats, .int v_rhythm, .int u2, .int v_faultAt])), (q_past, .inr (3, [.ref q_past_beats, .ref q_past_rhythms, .int v_past_next, .int v_past_count])), (q_past_beats, .inl (cI, 30, .inl f_past_beats)), (q_past_rhythms, .inl (cI, 30, .inl f_past_rhythms))] H := hP.sub [3, 0, 1, 2] rfl
  have hD : va_D A [(q0, .inr (6, [.ref q_text, .ref q_past, .ref q_ear, .ref q_tilings, .ref q_mending, .ref q_images, .int v_beats, .int v_rhythm, .int u2, .int v_faultAt])), (q_past, .inr (3, [.ref q_past_beats, .ref q_past_rhythms, .int v_past_next, .int v_past_count])), (q_past_beats, .inl (cI, 30, .inl f_past_beats)), (q_past_rhythms, .inl (cI, 30, .inl f_past_rhythms))] := hD.sub [3, 0, 1, 2] (by decide) rfl
  refine lv_istore_n (lv' := [(1, .int r1), (0, .ref q0)]) hx hb dX9_changeByDraws_6 rfl hl (by decide) rfl (fun ls hl => ?_)
  refine lv_iload_n hx hb dX9_changeByDraws_7 rfl (lv_at hl 0 rfl) ?_
  refine lv_iconst (v := 4) hx hb dX9_changeByDraws_8 (by decide) ?_
  refine lv_icmp_gt (tgt := 39) hx hb dX9_changeByDraws_9 (by decide) (fun c3 => ?_) (fun c3 => ?_)
  · replace h := h.1 c3
    refine lv_iload_n hx hb dX9_changeByDraws_39 rfl (lv_at hl 0 rfl) ?_
    refine lv_iconst (v := 5) hx hb dX9_changeByDraws_40 (by decide) ?_
    refine lv_icmp_ne (tgt := 75) hx hb dX9_changeByDraws_41 (by decide) (fun c4 => ?_) (fun c4 => ?_)
    · replace h := h.1 c4
      refine lv_iload_n hx hb dX9_changeByDraws_75 rfl (lv_at hl 0 rfl) ?_
      refine lv_bipush (v := 6) hx hb dX9_changeByDraws_76 (by decide) ?_
      refine lv_icmp_ne (tgt := 104) hx hb dX9_changeByDraws_78 (by decide) (fun c5 => ?_) (fun c5 => ?_)
      · replace h := h.1 c5
        refine lv_aload_n hx hb dX9_changeByDraws_104 rfl (lv_at hl 1 rfl) ?_
        refine lv_aload_n hx hb dX9_changeByDraws_105 rfl (lv_at hl 1 rfl) ?_
        refine va_get (D := (dC, dI)) (ci := 6) (v := .int v_beats) (C := RX9) (T := TX9) (N := 10) hx hb hts iX9_changeByDraws_X9 hown hK hP 0 rfl rfl 6 (by decide) (hts (.fieldLink RX9 53 "TilingBeats" "beats" "I") (by decide +kernel)) (fun _ h9 => h9) rfl dX9_changeByDraws_106 ?_
        refine lv_aload_n hx hb dX9_changeByDraws_109 rfl (lv_at hl 1 rfl) ?_
        refine va_get (D := (dC, dI)) (ci := 6) (v := .int v_beats) (C := RX9) (T := TX9) (N := 10) hx hb hts iX9_changeByDraws_X9 hown hK hP 0 rfl rfl 6 (by decide) (hts (.fieldLink RX9 53 "TilingBeats" "beats" "I") (by decide +kernel)) (fun _ h9 => h9) rfl dX9_changeByDraws_110 ?_
        refine lv_aload_n hx hb dX9_changeByDraws_113 rfl (lv_at hl 1 rfl) ?_
        refine va_get (D := (dC, dI)) (ci := 6) (v := .int v_rhythm) (C := RX9) (T := TX9) (N := 10) hx hb hts iX9_changeByDraws_X9 hown hK hP 0 rfl rfl 7 (by decide) (hts (.fieldLink RX9 57 "TilingBeats" "rhythm" "I") (by decide +kernel)) (fun _ h9 => h9) rfl dX9_changeByDraws_114 ?_
        refine vs_calli (va_runSN (As := [.int v_beats, .int v_rhythm]) (rest := [.int v_beats, .ref q0]) ⟨hx, hb, hml, hown, hts⟩ (c_X6_mirrored l v_beats v_rhythm _ h) ⟨va_cnB 2 hts gX9_changeByDraws_X6_mirrored_n176 rfl rfl rfl (nw_52 hN) (hts (.initialized RX6) (by decide +kernel)) (by decide +kernel) ⟨Nat.le_of_ble_eq_true rfl, Nat.le_of_ble_eq_true rfl⟩, hts (.static yX6_mirrored) (by decide +kernel), trivial⟩ ⟨fun a U g mk q => ⟨q.1, nW_call q.2⟩, fun U hU hW => ⟨rfl, nW_warm hW hN⟩⟩ rfl rfl hl.1 rfl (lv_room (Nat.le_of_ble_eq_true rfl)) dX9_changeByDraws_117 ⟨Nat.le_of_ble_eq_true rfl, Nat.le_of_ble_eq_true rfl⟩) (fun r6 h => ?_)
        have hPc := hP.sub (ws' := [(q0, .inr (6, [.ref q_text, .ref q_past, .ref q_ear, .ref q_tilings, .ref q_mending, .ref q_images, .int v_beats, .int v_rhythm, .int u2, .int v_faultAt])), (q_past, .inr (3, [.ref q_past_beats, .ref q_past_rhythms, .int v_past_next, .int v_past_count])), (q_past_beats, .inl (cI, 30, .inl f_past_beats)), (q_past_rhythms, .inl (cI, 30, .inl f_past_rhythms))]) [0, 1, 2, 3] rfl
        have hDc := hD.sub (ws' := [(q0, .inr (6, [.ref q_text, .ref q_past, .ref q_ear, .ref q_tilings, .ref q_mending, .ref q_images, .int v_beats, .int v_rhythm, .int u2, .int v_faultAt])), (q_past, .inr (3, [.ref q_past_beats, .ref q_past_rhythms, .int v_past_next, .int v_past_count])), (q_past_beats, .inl (cI, 30, .inl f_past_beats)), (q_past_rhythms, .inl (cI, 30, .inl f_past_rhythms))]) [0, 1, 2, 3] (by decide) rfl
        have hFc := va_free (wc := [(q0, .inr (6, [.ref q_text, .ref q_past, .ref q_ear, .ref q_tilings, .ref q_mending, .ref q_images, .int v_beats, .int v_rhythm, .int u2, .int v_faultAt])), (q_past, .inr (3, [.ref q_past_beats, .ref q_past_rhythms, .int v_past_next, .int v_past_count])), (q_past_beats, .inl (cI, 30, .inl f_past_beats)), (q_past_rhythms, .inl (cI, 30, .inl f_past_rhythms))]) hD hS hA [0, 1, 2, 3] rfl
        refine va_calli (va_runV (As := [.int v_beats, .int r6]) (rest := []) ⟨hx, hb, hml, hown, hts⟩ (c_X9_change l dC dI cI cZ q0 q_text q_past q_ear q_tilings q_mending q_images q_past_beats q_past_rhythms H.size v_beats v_rhythm u2 v_faultAt v_past_next v_past_count f_past_beats f_past_rhythms v_beats r6 _ h) (cwV 2 hts gX9_changeByDraws_X9_change rfl rfl rfl (by decide +kernel) ⟨Nat.le_of_ble_eq_true rfl, Nat.le_of_ble_eq_true rfl⟩) ⟨fun a U g mk q => ⟨q.1, q.2.1, q.2.2.1, va_K.moved (u := U) (U := U.calling g mk a) (Vm.Alike.refl U.vm) q.2.2.2.1, q.2.2.2.2.1, nW_call q.2.2.2.2.2⟩, va_recv hK hPc (ci := 6) (q0 := 0) rfl rfl, fun U hU hW => ⟨rfl, by rw [hU], by rw [hU]; exact hPc, va_K.moved hW.alike hK, hDc.weaken (fun _ _ _ _ => trivial), nW_warm hW hN⟩⟩ rfl rfl hl.1 rfl (lv_room (Nat.le_of_ble_eq_true rfl)) dX9_changeByDraws_120 ⟨Nat.le_of_ble_eq_true rfl, Nat.le_of_ble_eq_true rfl⟩) hS (fun q _ h => hFc q h) hFc (fun r7 u t H1 locs ht hvm hw hB hz1 hk1 hS => ?_)
        obtain ⟨u8, u9, u10, u11, u12, u13⟩ := u
        obtain ⟨hP1, hD1⟩ := hB
        rw [ht] at hP1
        replace h := hw
        try dsimp only at h
        obtain ⟨hP, hD⟩ := va_join (wr := []) (w1 := [(q0, .inr (6, [.ref q_text, .ref q_past, .ref q_ear, .ref q_tilings, .ref q_mending, .ref q_images, .int u8, .int u9, .int u2, .int v_faultAt])), (q_past, .inr (3, [.ref q_past_beats, .ref q_past_rhythms, .int u10, .int u11])), (q_past_beats, .inl (cI, 30, .inl u12)), (q_past_rhythms, .inl (cI, 30, .inl u13))]) hP hD [0, 1, 2, 3] [] rfl rfl (by decide) (by decide) hk1 hFc hP1 hD1
        clear hP1 hD1 hFc hDc hPc hk1 hz1 hw hvm ht
        generalize H1 = H at hP hS ⊢
        have hP : va_P (dC, dI) vwCl [(q0, .inr (6, [.ref q_text, .ref q_past, .ref q_ear, .ref q_tilings, .ref q_mending, .ref q_images, .int u8, .int u9, .int u2, .int v_faultAt])), (q_past, .inr (3, [.ref q_past_beats, .ref q_past_rhythms, .int u10, .int u11])), (q_past_beats, .inl (cI, 30, .inl u12)), (q_past_rhythms, .inl (cI, 30, .inl u13))] H := hP.sub [0, 1, 2, 3] rfl
        have hD : va_D A [(q0, .inr (6, [.ref q_text, .ref q_past, .ref q_ear, .ref q_tilings, .ref q_mending, .ref q_images, .int u8, .int u9, .int u2, .int v_faultAt])), (q_past, .inr (3, [.ref q_past_beats, .ref q_past_rhythms, .int u10, .int u11])), (q_past_beats, .inl (cI, 30, .inl u12)), (q_past_rhythms, .inl (cI, 30, .inl u13))] := hD.sub [0, 1, 2, 3] (by decide) rfl
        refine lv_pop hx hb dX9_changeByDraws_123 rfl ?_
        exact w124 u8 u9 u2 u10 u11 u12 u13 h H locs ls hP hD hS (lv_sub hl [] rfl)
      · replace h := h.2 c5
        refine lv_aload_n hx hb dX9_changeByDraws_81 rfl (lv_at hl 1 rfl) ?_
        refine lv_aload_n hx hb dX9_changeByDraws_82 rfl (lv_at hl 1 rfl) ?_
        refine va_get (D := (dC, dI)) (ci := 6) (v := .int v_beats) (C := RX9) (T := TX9) (N := 10) hx hb hts iX9_changeByDraws_X9 hown hK hP 0 rfl rfl 6 (by decide) (hts (.fieldLink RX9 53 "TilingBeats" "beats" "I") (by decide +kernel)) (fun _ h9 => h9) rfl dX9_changeByDraws_83 ?_
        refine lv_aload_n hx hb dX9_changeByDraws_86 rfl (lv_at hl 1 rfl) ?_
        refine va_get (D := (dC, dI)) (ci := 6) (v := .int v_beats) (C := RX9) (T := TX9) (N := 10) hx hb hts iX9_changeByDraws_X9 hown hK hP 0 rfl rfl 6 (by decide) (hts (.fieldLink RX9 53 "TilingBeats" "beats" "I") (by decide +kernel)) (fun _ h9 => h9) rfl dX9_changeByDraws_87 ?_
        refine lv_aload_n hx hb dX9_changeByDraws_90 rfl (lv_at hl 1 rfl) ?_
        refine va_get (D := (dC, dI)) (ci := 6) (v := .int v_rhythm) (C := RX9) (T := TX9) (N := 10) hx hb hts iX9_changeByDraws_X9 hown hK hP 0 rfl rfl 7 (by decide) (hts (.fieldLink RX9 57 "TilingBeats" "rhythm" "I") (by decide +kernel)) (fun _ h9 => h9) rfl dX9_changeByDraws_91 ?_
        refine vs_calli (va_runSN (As := [.int v_beats, .int v_rhythm]) (rest := [.int v_beats, .ref q0]) ⟨hx, hb, hml, hown, hts⟩ (c_X6_inverted l v_beats v_rhythm _ h) ⟨va_cnB 2 hts gX9_changeByDraws_X6_inverted_n173 rfl rfl rfl (nw_51 hN) (hts (.initialized RX6) (by decide +kernel)) (by decide +kernel) ⟨Nat.le_of_ble_eq_true rfl, Nat.le_of_ble_eq_true rfl⟩, hts (.static yX6_inverted) (by decide +kernel), trivial⟩ ⟨fun a U g mk q => ⟨q.1, nW_call q.2⟩, fun U hU hW => ⟨rfl, nW_warm hW hN⟩⟩ rfl rfl hl.1 rfl (lv_room (Nat.le_of_ble_eq_true rfl)) dX9_changeByDraws_94 ⟨Nat.le_of_ble_eq_true rfl, Nat.le_of_ble_eq_true rfl⟩) (fun r14 h => ?_)
        have hPc := hP.sub (ws' := [(q0, .inr (6, [.ref q_text, .ref q_past, .ref q_ear, .ref q_tilings, .ref q_mending, .ref q_images, .int v_beats, .int v_rhythm, .int u2, .int v_faultAt])), (q_past, .inr (3, [.ref q_past_beats, .ref q_past_rhythms, .int v_past_next, .int v_past_count])), (q_past_beats, .inl (cI, 30, .inl f_past_beats)), (q_past_rhythms, .inl (cI, 30, .inl f_past_rhythms))]) [0, 1, 2, 3] rfl
        have hDc := hD.sub (ws' := [(q0, .inr (6, [.ref q_text, .ref q_past, .ref q_ear, .ref q_tilings, .ref q_mending, .ref q_images, .int v_beats, .int v_rhythm, .int u2, .int v_faultAt])), (q_past, .inr (3, [.ref q_past_beats, .ref q_past_rhythms, .int v_past_next, .int v_past_count])), (q_past_beats, .inl (cI, 30, .inl f_past_beats)), (q_past_rhythms, .inl (cI, 30, .inl f_past_rhythms))]) [0, 1, 2, 3] (by decide) rfl
        have hFc := va_free (wc := [(q0, .inr (6, [.ref q_text, .ref q_past, .ref q_ear, .ref q_tilings, .ref q_mending, .ref q_images, .int v_beats, .int v_rhythm, .int u2, .int v_faultAt])), (q_past, .inr (3, [.ref q_past_beats, .ref q_past_rhythms, .int v_past_next, .int v_past_count])), (q_past_beats, .inl (cI, 30, .inl f_past_beats)), (q_past_rhythms, .inl (cI, 30, .inl f_past_rhythms))]) hD hS hA [0, 1, 2, 3] rfl
        refine va_calli (va_runV (As := [.int v_beats, .int r14]) (rest := []) ⟨hx, hb, hml, hown, hts⟩ (c_X9_change l dC dI cI cZ q0 q_text q_past q_ear q_tilings q_mending q_images q_past_beats q_past_rhythms H.size v_beats v_rhythm u2 v_faultAt v_past_next v_past_count f_past_beats f_past_rhythms v_beats r14 _ h) (cwV 2 hts gX9_changeByDraws_X9_change rfl rfl rfl (by decide +kernel) ⟨Nat.le_of_ble_eq_true rfl, Nat.le_of_ble_eq_true rfl⟩) ⟨fun a U g mk q => ⟨q.1, q.2.1, q.2.2.1, va_K.moved (u := U) (U := U.calling g mk a) (Vm.Alike.refl U.vm) q.2.2.2.1, q.2.2.2.2.1, nW_call q.2.2.2.2.2⟩, va_recv hK hPc (ci := 6) (q0 := 0) rfl rfl, fun U hU hW => ⟨rfl, by rw [hU], by rw [hU]; exact hPc, va_K.moved hW.alike hK, hDc.weaken (fun _ _ _ _ => trivial), nW_warm hW hN⟩⟩ rfl rfl hl.1 rfl (lv_room (Nat.le_of_ble_eq_true rfl)) dX9_changeByDraws_97 ⟨Nat.le_of_ble_eq_true rfl, Nat.le_of_ble_eq_true rfl⟩) hS (fun q _ h => hFc q h) hFc (fun r15 u t H1 locs ht hvm hw hB hz1 hk1 hS => ?_)
        obtain ⟨u16, u17, u18, u19, u20, u21⟩ := u
        obtain ⟨hP1, hD1⟩ := hB
        rw [ht] at hP1
        replace h := hw
        try dsimp only at h
        obtain ⟨hP, hD⟩ := va_join (wr := []) (w1 := [(q0, .inr (6, [.ref q_text, .ref q_past, .ref q_ear, .ref q_tilings, .ref q_mending, .ref q_images, .int u16, .int u17, .int u2, .int v_faultAt])), (q_past, .inr (3, [.ref q_past_beats, .ref q_past_rhythms, .int u18, .int u19])), (q_past_beats, .inl (cI, 30, .inl u20)), (q_past_rhythms, .inl (cI, 30, .inl u21))]) hP hD [0, 1, 2, 3] [] rfl rfl (by decide) (by decide) hk1 hFc hP1 hD1
        clear hP1 hD1 hFc hDc hPc hk1 hz1 hw hvm ht
        generalize H1 = H at hP hS ⊢
        have hP : va_P (dC, dI) vwCl [(q0, .inr (6, [.ref q_text, .ref q_past, .ref q_ear, .ref q_tilings, .ref q_mending, .ref q_images, .int u16, .int u17, .int u2, .int v_faultAt])), (q_past, .inr (3, [.ref q_past_beats, .ref q_past_rhythms, .int u18, .int u19])), (q_past_beats, .inl (cI, 30, .inl u20)), (q_past_rhythms, .inl (cI, 30, .inl u21))] H := hP.sub [0, 1, 2, 3] rfl
        have hD : va_D A [(q0, .inr (6, [.ref q_text, .ref q_past, .ref q_ear, .ref q_tilings, .ref q_mending, .ref q_images, .int u16, .int u17, .int u2, .int v_faultAt])), (q_past, .inr (3, [.ref q_past_beats, .ref q_past_rhythms, .int u18, .int u19])), (q_past_beats, .inl (cI, 30, .inl u20)), (q_past_rhythms, .inl (cI, 30, .inl u21))] := hD.sub [0, 1, 2, 3] (by decide) rfl
        refine lv_pop hx hb dX9_changeByDraws_100 rfl ?_
        refine lv_goto (tgt := 124) hx hb dX9_changeByDraws_101 (by decide) ?_
        exact w124 u16 u17 u2 u18 u19 u20 u21 h H locs ls hP hD hS (lv_sub hl [] rfl)
    · replace h := h.2 c4
      refine lv_aload_n hx hb dX9_changeByDraws_44 rfl (lv_at hl 1 rfl) ?_
      refine lv_aload_n hx hb dX9_changeByDraws_45 rfl (lv_at hl 1 rfl) ?_
      refine va_get (D := (dC, dI)) (ci := 6) (v := .int v_beats) (C := RX9) (T := TX9) (N := 10) hx hb hts iX9_changeByDraws_X9 hown hK hP 0 rfl rfl 6 (by decide) (hts (.fieldLink RX9 53 "TilingBeats" "beats" "I") (by decide +kernel)) (fun _ h9 => h9) rfl dX9_changeByDraws_46 ?_
      refine lv_aload_n hx hb dX9_changeByDraws_49 rfl (lv_at hl 1 rfl) ?_
      refine va_get (D := (dC, dI)) (ci := 6) (v := .int v_beats) (C := RX9) (T := TX9) (N := 10) hx hb hts iX9_changeByDraws_X9 hown hK hP 0 rfl rfl 6 (by decide) (hts (.fieldLink RX9 53 "TilingBeats" "beats" "I") (by decide +kernel)) (fun _ h9 => h9) rfl dX9_changeByDraws_50 ?_
      refine lv_aload_n hx hb dX9_changeByDraws_53 rfl (lv_at hl 1 rfl) ?_
      refine va_get (D := (dC, dI)) (ci := 6) (v := .int v_rhythm) (C := RX9) (T := TX9) (N := 10) hx hb hts iX9_changeByDraws_X9 hown hK hP 0 rfl rfl 7 (by decide) (hts (.fieldLink RX9 57 "TilingBeats" "rhythm" "I") (by decide +kernel)) (fun _ h9 => h9) rfl dX9_changeByDraws_54 ?_
      refine lv_aload_n hx hb dX9_changeByDraws_57 rfl (lv_at hl 1 rfl) ?_
      refine lv_aload_n hx hb dX9_changeByDraws_58 rfl (lv_at hl 1 rfl) ?_
      refine va_get (D := (dC, dI)) (ci := 6) (v := .int v_beats) (C := RX9) (T := TX9) (N := 10) hx hb hts iX9_changeByDraws_X9 hown hK hP 0 rfl rfl 6 (by decide) (hts (.fieldLink RX9 53 "TilingBeats" "beats" "I") (by decide +kernel)) (fun _ h9 => h9) rfl dX9_changeByDraws_59 ?_
      have hPc := hP.sub (ws' := [(q0, .inr (6, [.ref q_text, .ref q_past, .ref q_ear, .ref q_tilings, .ref q_mending, .ref q_images, .int v_beats, .int v_rhythm, .int u2, .int v_faultAt]))]) [0] rfl
      have hDc := hD.sub (ws' := [(q0, .inr (6, [.ref q_text, .ref q_past, .ref q_ear, .ref q_tilings, .ref q_mending, .ref q_images, .int v_beats, .int v_rhythm, .int u2, .int v_faultAt]))]) [0] (by decide) rfl
      have hFc := va_free (wc := [(q0, .inr (6, [.ref q_text, .ref q_past, .ref q_ear, .ref q_tilings, .ref q_mending, .ref q_images, .int v_beats, .int v_rhythm, .int u2, .int v_faultAt]))]) hD hS hA [0] rfl
      refine va_calli (va_runV (As := [.int v_beats]) (rest := [.int v_rhythm, .int v_beats, .int v_beats, .ref q0]) ⟨hx, hb, hml, hown, hts⟩ (c_X9_draw l dC dI cI cZ q0 q_text q_past q_ear q_tilings q_mending q_images H.size v_beats v_rhythm u2 v_faultAt v_beats _ h) (cwV 1 hts gX9_changeByDraws_X9_draw rfl rfl rfl (by decide +kernel) ⟨Nat.le_of_ble_eq_true rfl, Nat.le_of_ble_eq_true rfl⟩) ⟨fun a U g mk q => ⟨q.1, q.2.1, q.2.2.1, va_K.moved (u := U) (U := U.calling g mk a) (Vm.Alike.refl U.vm) q.2.2.2.1, q.2.2.2.2.1, nW_call q.2.2.2.2.2⟩, va_recv hK hPc (ci := 6) (q0 := 0) rfl rfl, fun U hU hW => ⟨rfl, by rw [hU], by rw [hU]; exact hPc, va_K.moved hW.alike hK, hDc.weaken (fun _ _ _ _ => trivial), nW_warm hW hN⟩⟩ rfl rfl hl.1 rfl (lv_room (Nat.le_of_ble_eq_true rfl)) dX9_changeByDraws_62 ⟨Nat.le_of_ble_eq_true rfl, Nat.le_of_ble_eq_true rfl⟩) hS (fun q _ h => hFc q h) hFc (fun r22 u t H1 locs ht hvm hw hB hz1 hk1 hS => ?_)
      obtain ⟨u23, rfl⟩ : ∃ z, z = u := ⟨_, rfl⟩
      obtain ⟨hP1, hD1⟩ := hB
      rw [ht] at hP1
      replace h := hw
      try dsimp only at h
      obtain ⟨hP, hD⟩ := va_join (wr := [(q_past, .inr (3, [.ref q_past_beats, .ref q_past_rhythms, .int v_past_next, .int v_past_count])), (q_past_beats, .inl (cI, 30, .inl f_past_beats)), (q_past_rhythms, .inl (cI, 30, .inl f_past_rhythms))]) (w1 := [(q0, .inr (6, [.ref q_text, .ref q_past, .ref q_ear, .ref q_tilings, .ref q_mending, .ref q_images, .int v_beats, .int v_rhythm, .int u23, .int v_faultAt]))]) hP hD [0] [1, 2, 3] rfl rfl (by decide) (by decide) hk1 hFc hP1 hD1
      clear hP1 hD1 hFc hDc hPc hk1 hz1 hw hvm ht
      generalize H1 = H at hP hS ⊢
      have hP : va_P (dC, dI) vwCl [(q0, .inr (6, [.ref q_text, .ref q_past, .ref q_ear, .ref q_tilings, .ref q_mending, .ref q_images, .int v_beats, .int v_rhythm, .int u23, .int v_faultAt])), (q_past, .inr (3, [.ref q_past_beats, .ref q_past_rhythms, .int v_past_next, .int v_past_count])), (q_past_beats, .inl (cI, 30, .inl f_past_beats)), (q_past_rhythms, .inl (cI, 30, .inl f_past_rhythms))] H := hP.sub [3, 0, 1, 2] rfl
      have hD : va_D A [(q0, .inr (6, [.ref q_text, .ref q_past, .ref q_ear, .ref q_tilings, .ref q_mending, .ref q_images, .int v_beats, .int v_rhythm, .int u23, .int v_faultAt])), (q_past, .inr (3, [.ref q_past_beats, .ref q_past_rhythms, .int v_past_next, .int v_past_count])), (q_past_beats, .inl (cI, 30, .inl f_past_beats)), (q_past_rhythms, .inl (cI, 30, .inl f_past_rhythms))] := hD.sub [3, 0, 1, 2] (by decide) rfl
      refine vs_calli (va_runSN (As := [.int v_beats, .int v_rhythm, .int r22]) (rest := [.int v_beats, .ref q0]) ⟨hx, hb, hml, hown, hts⟩ (c_X6_moved l v_beats v_rhythm r22 _ h) ⟨va_cnB 3 hts gX9_changeByDraws_X6_moved_n152 rfl rfl rfl (nw_46 hN) (hts (.initialized RX6) (by decide +kernel)) (by decide +kernel) ⟨Nat.le_of_ble_eq_true rfl, Nat.le_of_ble_eq_true rfl⟩, hts (.static yX6_moved) (by decide +kernel), trivial⟩ ⟨fun a U g mk q => ⟨q.1, nW_call q.2⟩, fun U hU hW => ⟨rfl, nW_warm hW hN⟩⟩ rfl rfl hl.1 rfl (lv_room (Nat.le_of_ble_eq_true rfl)) dX9_changeByDraws_65 ⟨Nat.le_of_ble_eq_true rfl, Nat.le_of_ble_eq_true rfl⟩) (fun r24 h => ?_)
      have hPc := hP.sub (ws' := [(q0, .inr (6, [.ref q_text, .ref q_past, .ref q_ear, .ref q_tilings, .ref q_mending, .ref q_images, .int v_beats, .int v_rhythm, .int u23, .int v_faultAt])), (q_past, .inr (3, [.ref q_past_beats, .ref q_past_rhythms, .int v_past_next, .int v_past_count])), (q_past_beats, .inl (cI, 30, .inl f_past_beats)), (q_past_rhythms, .inl (cI, 30, .inl f_past_rhythms))]) [0, 1, 2, 3] rfl
      have hDc := hD.sub (ws' := [(q0, .inr (6, [.ref q_text, .ref q_past, .ref q_ear, .ref q_tilings, .ref q_mending, .ref q_images, .int v_beats, .int v_rhythm, .int u23, .int v_faultAt])), (q_past, .inr (3, [.ref q_past_beats, .ref q_past_rhythms, .int v_past_next, .int v_past_count])), (q_past_beats, .inl (cI, 30, .inl f_past_beats)), (q_past_rhythms, .inl (cI, 30, .inl f_past_rhythms))]) [0, 1, 2, 3] (by decide) rfl
      have hFc := va_free (wc := [(q0, .inr (6, [.ref q_text, .ref q_past, .ref q_ear, .ref q_tilings, .ref q_mending, .ref q_images, .int v_beats, .int v_rhythm, .int u23, .int v_faultAt])), (q_past, .inr (3, [.ref q_past_beats, .ref q_past_rhythms, .int v_past_next, .int v_past_count])), (q_past_beats, .inl (cI, 30, .inl f_past_beats)), (q_past_rhythms, .inl (cI, 30, .inl f_past_rhythms))]) hD hS hA [0, 1, 2, 3] rfl
      refine va_calli (va_runV (As := [.int v_beats, .int r24]) (rest := []) ⟨hx, hb, hml, hown, hts⟩ (c_X9_change l dC dI cI cZ q0 q_text q_past q_ear q_tilings q_mending q_images q_past_beats q_past_rhythms H.size v_beats v_rhythm u23 v_faultAt v_past_next v_past_count f_past_beats f_past_rhythms v_beats r24 _ h) (cwV 2 hts gX9_changeByDraws_X9_change rfl rfl rfl (by decide +kernel) ⟨Nat.le_of_ble_eq_true rfl, Nat.le_of_ble_eq_true rfl⟩) ⟨fun a U g mk q => ⟨q.1, q.2.1, q.2.2.1, va_K.moved (u := U) (U := U.calling g mk a) (Vm.Alike.refl U.vm) q.2.2.2.1, q.2.2.2.2.1, nW_call q.2.2.2.2.2⟩, va_recv hK hPc (ci := 6) (q0 := 0) rfl rfl, fun U hU hW => ⟨rfl, by rw [hU], by rw [hU]; exact hPc, va_K.moved hW.alike hK, hDc.weaken (fun _ _ _ _ => trivial), nW_warm hW hN⟩⟩ rfl rfl hl.1 rfl (lv_room (Nat.le_of_ble_eq_true rfl)) dX9_changeByDraws_68 ⟨Nat.le_of_ble_eq_true rfl, Nat.le_of_ble_eq_true rfl⟩) hS (fun q _ h => hFc q h) hFc (fun r25 u t H1 locs ht hvm hw hB hz1 hk1 hS => ?_)
      obtain ⟨u26, u27, u28, u29, u30, u31⟩ := u
      obtain ⟨hP1, hD1⟩ := hB
      rw [ht] at hP1
      replace h := hw
      try dsimp only at h
      obtain ⟨hP, hD⟩ := va_join (wr := []) (w1 := [(q0, .inr (6, [.ref q_text, .ref q_past, .ref q_ear, .ref q_tilings, .ref q_mending, .ref q_images, .int u26, .int u27, .int u23, .int v_faultAt])), (q_past, .inr (3, [.ref q_past_beats, .ref q_past_rhythms, .int u28, .int u29])), (q_past_beats, .inl (cI, 30, .inl u30)), (q_past_rhythms, .inl (cI, 30, .inl u31))]) hP hD [0, 1, 2, 3] [] rfl rfl (by decide) (by decide) hk1 hFc hP1 hD1
      clear hP1 hD1 hFc hDc hPc hk1 hz1 hw hvm ht
      generalize H1 = H at hP hS ⊢
      have hP : va_P (dC, dI) vwCl [(q0, .inr (6, [.ref q_text, .ref q_past, .ref q_ear, .ref q_tilings, .ref q_mending, .ref q_images, .int u26, .int u27, .int u23, .int v_faultAt])), (q_past, .inr (3, [.ref q_past_beats, .ref q_past_rhythms, .int u28, .int u29])), (q_past_beats, .inl (cI, 30, .inl u30)), (q_past_rhythms, .inl (cI, 30, .inl u31))] H := hP.sub [0, 1, 2, 3] rfl
      have hD : va_D A [(q0, .inr (6, [.ref q_text, .ref q_past, .ref q_ear, .ref q_tilings, .ref q_mending, .ref q_images, .int u26, .int u27, .int u23, .int v_faultAt])), (q_past, .inr (3, [.ref q_past_beats, .ref q_past_rhythms, .int u28, .int u29])), (q_past_beats, .inl (cI, 30, .inl u30)), (q_past_rhythms, .inl (cI, 30, .inl u31))] := hD.sub [0, 1, 2, 3] (by decide) rfl
      refine lv_pop hx hb dX9_changeByDraws_71 rfl ?_
      refine lv_goto (tgt := 124) hx hb dX9_changeByDraws_72 (by decide) ?_
      exact w124 u26 u27 u23 u28 u29 u30 u31 h H locs ls hP hD hS (lv_sub hl [] rfl)
  · replace h := h.2 c3
    refine lv_aload_n hx hb dX9_changeByDraws_12 rfl (lv_at hl 1 rfl) ?_
    refine lv_aload_n hx hb dX9_changeByDraws_13 rfl (lv_at hl 1 rfl) ?_
    refine va_get (D := (dC, dI)) (ci := 6) (v := .int v_beats) (C := RX9) (T := TX9) (N := 10) hx hb hts iX9_changeByDraws_X9 hown hK hP 0 rfl rfl 6 (by decide) (hts (.fieldLink RX9 53 "TilingBeats" "beats" "I") (by decide +kernel)) (fun _ h9 => h9) rfl dX9_changeByDraws_14 ?_
    refine lv_aload_n hx hb dX9_changeByDraws_17 rfl (lv_at hl 1 rfl) ?_
    refine va_get (D := (dC, dI)) (ci := 6) (v := .int v_rhythm) (C := RX9) (T := TX9) (N := 10) hx hb hts iX9_changeByDraws_X9 hown hK hP 0 rfl rfl 7 (by decide) (hts (.fieldLink RX9 57 "TilingBeats" "rhythm" "I") (by decide +kernel)) (fun _ h9 => h9) rfl dX9_changeByDraws_18 ?_
    refine lv_iconst (v := 1) hx hb dX9_changeByDraws_21 (by decide) ?_
    refine lv_aload_n hx hb dX9_changeByDraws_22 rfl (lv_at hl 1 rfl) ?_
    refine lv_aload_n hx hb dX9_changeByDraws_23 rfl (lv_at hl 1 rfl) ?_
    refine va_get (D := (dC, dI)) (ci := 6) (v := .int v_beats) (C := RX9) (T := TX9) (N := 10) hx hb hts iX9_changeByDraws_X9 hown hK hP 0 rfl rfl 6 (by decide) (hts (.fieldLink RX9 53 "TilingBeats" "beats" "I") (by decide +kernel)) (fun _ h9 => h9) rfl dX9_changeByDraws_24 ?_
    have hPc := hP.sub (ws' := [(q0, .inr (6, [.ref q_text, .ref q_past, .ref q_ear, .ref q_tilings, .ref q_mending, .ref q_images, .int v_beats, .int v_rhythm, .int u2, .int v_faultAt]))]) [0] rfl
    have hDc := hD.sub (ws' := [(q0, .inr (6, [.ref q_text, .ref q_past, .ref q_ear, .ref q_tilings, .ref q_mending, .ref q_images, .int v_beats, .int v_rhythm, .int u2, .int v_faultAt]))]) [0] (by decide) rfl
    have hFc := va_free (wc := [(q0, .inr (6, [.ref q_text, .ref q_past, .ref q_ear, .ref q_tilings, .ref q_mending, .ref q_images, .int v_beats, .int v_rhythm, .int u2, .int v_faultAt]))]) hD hS hA [0] rfl
    refine va_calli (va_runV (As := [.int v_beats]) (rest := [.int 1, .int v_rhythm, .int v_beats, .ref q0]) ⟨hx, hb, hml, hown, hts⟩ (c_X9_draw l dC dI cI cZ q0 q_text q_past q_ear q_tilings q_mending q_images H.size v_beats v_rhythm u2 v_faultAt v_beats _ h) (cwV 1 hts gX9_changeByDraws_X9_draw rfl rfl rfl (by decide +kernel) ⟨Nat.le_of_ble_eq_true rfl, Nat.le_of_ble_eq_true rfl⟩) ⟨fun a U g mk q => ⟨q.1, q.2.1, q.2.2.1, va_K.moved (u := U) (U := U.calling g mk a) (Vm.Alike.refl U.vm) q.2.2.2.1, q.2.2.2.2.1, nW_call q.2.2.2.2.2⟩, va_recv hK hPc (ci := 6) (q0 := 0) rfl rfl, fun U hU hW => ⟨rfl, by rw [hU], by rw [hU]; exact hPc, va_K.moved hW.alike hK, hDc.weaken (fun _ _ _ _ => trivial), nW_warm hW hN⟩⟩ rfl rfl hl.1 rfl (lv_room (Nat.le_of_ble_eq_true rfl)) dX9_changeByDraws_27 ⟨Nat.le_of_ble_eq_true rfl, Nat.le_of_ble_eq_true rfl⟩) hS (fun q _ h => hFc q h) hFc (fun r32 u t H1 locs ht hvm hw hB hz1 hk1 hS => ?_)
    obtain ⟨u33, rfl⟩ : ∃ z, z = u := ⟨_, rfl⟩
    obtain ⟨hP1, hD1⟩ := hB
    rw [ht] at hP1
    replace h := hw
    try dsimp only at h
    obtain ⟨hP, hD⟩ := va_join (wr := [(q_past, .inr (3, [.ref q_past_beats, .ref q_past_rhythms, .int v_past_next, .int v_past_count])), (q_past_beats, .inl (cI, 30, .inl f_past_beats)), (q_past_rhythms, .inl (cI, 30, .inl f_past_rhythms))]) (w1 := [(q0, .inr (6, [.ref q_text, .ref q_past, .ref q_ear, .ref q_tilings, .ref q_mending, .ref q_images, .int v_beats, .int v_rhythm, .int u33, .int v_faultAt]))]) hP hD [0] [1, 2, 3] rfl rfl (by decide) (by decide) hk1 hFc hP1 hD1
    clear hP1 hD1 hFc hDc hPc hk1 hz1 hw hvm ht
    generalize H1 = H at hP hS ⊢
    have hP : va_P (dC, dI) vwCl [(q0, .inr (6, [.ref q_text, .ref q_past, .ref q_ear, .ref q_tilings, .ref q_mending, .ref q_images, .int v_beats, .int v_rhythm, .int u33, .int v_faultAt])), (q_past, .inr (3, [.ref q_past_beats, .ref q_past_rhythms, .int v_past_next, .int v_past_count])), (q_past_beats, .inl (cI, 30, .inl f_past_beats)), (q_past_rhythms, .inl (cI, 30, .inl f_past_rhythms))] H := hP.sub [3, 0, 1, 2] rfl
    have hD : va_D A [(q0, .inr (6, [.ref q_text, .ref q_past, .ref q_ear, .ref q_tilings, .ref q_mending, .ref q_images, .int v_beats, .int v_rhythm, .int u33, .int v_faultAt])), (q_past, .inr (3, [.ref q_past_beats, .ref q_past_rhythms, .int v_past_next, .int v_past_count])), (q_past_beats, .inl (cI, 30, .inl f_past_beats)), (q_past_rhythms, .inl (cI, 30, .inl f_past_rhythms))] := hD.sub [3, 0, 1, 2] (by decide) rfl
    refine lv_ishl hx hb dX9_changeByDraws_30 ?_
    refine lv_ixor hx hb dX9_changeByDraws_31 ?_
    have hPc := hP.sub (ws' := [(q0, .inr (6, [.ref q_text, .ref q_past, .ref q_ear, .ref q_tilings, .ref q_mending, .ref q_images, .int v_beats, .int v_rhythm, .int u33, .int v_faultAt])), (q_past, .inr (3, [.ref q_past_beats, .ref q_past_rhythms, .int v_past_next, .int v_past_count])), (q_past_beats, .inl (cI, 30, .inl f_past_beats)), (q_past_rhythms, .inl (cI, 30, .inl f_past_rhythms))]) [0, 1, 2, 3] rfl
    have hDc := hD.sub (ws' := [(q0, .inr (6, [.ref q_text, .ref q_past, .ref q_ear, .ref q_tilings, .ref q_mending, .ref q_images, .int v_beats, .int v_rhythm, .int u33, .int v_faultAt])), (q_past, .inr (3, [.ref q_past_beats, .ref q_past_rhythms, .int v_past_next, .int v_past_count])), (q_past_beats, .inl (cI, 30, .inl f_past_beats)), (q_past_rhythms, .inl (cI, 30, .inl f_past_rhythms))]) [0, 1, 2, 3] (by decide) rfl
    have hFc := va_free (wc := [(q0, .inr (6, [.ref q_text, .ref q_past, .ref q_ear, .ref q_tilings, .ref q_mending, .ref q_images, .int v_beats, .int v_rhythm, .int u33, .int v_faultAt])), (q_past, .inr (3, [.ref q_past_beats, .ref q_past_rhythms, .int v_past_next, .int v_past_count])), (q_past_beats, .inl (cI, 30, .inl f_past_beats)), (q_past_rhythms, .inl (cI, 30, .inl f_past_rhythms))]) hD hS hA [0, 1, 2, 3] rfl
    refine va_calli (va_runV (As := [.int v_beats, .int (v_rhythm ^^^ (1 <<< (r32 &&& 31)))]) (rest := []) ⟨hx, hb, hml, hown, hts⟩ (c_X9_change l dC dI cI cZ q0 q_text q_past q_ear q_tilings q_mending q_images q_past_beats q_past_rhythms H.size v_beats v_rhythm u33 v_faultAt v_past_next v_past_count f_past_beats f_past_rhythms v_beats (v_rhythm ^^^ (1 <<< (r32 &&& 31))) _ h) (cwV 2 hts gX9_changeByDraws_X9_change rfl rfl rfl (by decide +kernel) ⟨Nat.le_of_ble_eq_true rfl, Nat.le_of_ble_eq_true rfl⟩) ⟨fun a U g mk q => ⟨q.1, q.2.1, q.2.2.1, va_K.moved (u := U) (U := U.calling g mk a) (Vm.Alike.refl U.vm) q.2.2.2.1, q.2.2.2.2.1, nW_call q.2.2.2.2.2⟩, va_recv hK hPc (ci := 6) (q0 := 0) rfl rfl, fun U hU hW => ⟨rfl, by rw [hU], by rw [hU]; exact hPc, va_K.moved hW.alike hK, hDc.weaken (fun _ _ _ _ => trivial), nW_warm hW hN⟩⟩ rfl rfl hl.1 rfl (lv_room (Nat.le_of_ble_eq_true rfl)) dX9_changeByDraws_32 ⟨Nat.le_of_ble_eq_true rfl, Nat.le_of_ble_eq_true rfl⟩) hS (fun q _ h => hFc q h) hFc (fun r34 u t H1 locs ht hvm hw hB hz1 hk1 hS => ?_)
    obtain ⟨u35, u36, u37, u38, u39, u40⟩ := u
    obtain ⟨hP1, hD1⟩ := hB
    rw [ht] at hP1
    replace h := hw
    try dsimp only at h
    obtain ⟨hP, hD⟩ := va_join (wr := []) (w1 := [(q0, .inr (6, [.ref q_text, .ref q_past, .ref q_ear, .ref q_tilings, .ref q_mending, .ref q_images, .int u35, .int u36, .int u33, .int v_faultAt])), (q_past, .inr (3, [.ref q_past_beats, .ref q_past_rhythms, .int u37, .int u38])), (q_past_beats, .inl (cI, 30, .inl u39)), (q_past_rhythms, .inl (cI, 30, .inl u40))]) hP hD [0, 1, 2, 3] [] rfl rfl (by decide) (by decide) hk1 hFc hP1 hD1
    clear hP1 hD1 hFc hDc hPc hk1 hz1 hw hvm ht
    generalize H1 = H at hP hS ⊢
    have hP : va_P (dC, dI) vwCl [(q0, .inr (6, [.ref q_text, .ref q_past, .ref q_ear, .ref q_tilings, .ref q_mending, .ref q_images, .int u35, .int u36, .int u33, .int v_faultAt])), (q_past, .inr (3, [.ref q_past_beats, .ref q_past_rhythms, .int u37, .int u38])), (q_past_beats, .inl (cI, 30, .inl u39)), (q_past_rhythms, .inl (cI, 30, .inl u40))] H := hP.sub [0, 1, 2, 3] rfl
    have hD : va_D A [(q0, .inr (6, [.ref q_text, .ref q_past, .ref q_ear, .ref q_tilings, .ref q_mending, .ref q_images, .int u35, .int u36, .int u33, .int v_faultAt])), (q_past, .inr (3, [.ref q_past_beats, .ref q_past_rhythms, .int u37, .int u38])), (q_past_beats, .inl (cI, 30, .inl u39)), (q_past_rhythms, .inl (cI, 30, .inl u40))] := hD.sub [0, 1, 2, 3] (by decide) rfl
    refine lv_pop hx hb dX9_changeByDraws_35 rfl ?_
    refine lv_goto (tgt := 124) hx hb dX9_changeByDraws_36 (by decide) ?_
    exact w124 u35 u36 u33 u37 u38 u39 u40 h H locs ls hP hD hS (lv_sub hl [] rfl)

def wp_X9_drift_j11 (Q : Int32 → Int32 → Int32 → Int32 → Int32 → Int32 → (Nat → Int32) → (Nat → Int32) → Prop) (v_beats : Int32) (v_rhythm : Int32) (v_draws : Int32) (v_past_next : Int32) (v_past_count : Int32) (f_past_beats : (Nat → Int32)) (f_past_rhythms : (Nat → Int32)) : Prop := Q (-1000000002) v_beats v_rhythm v_draws v_past_next v_past_count f_past_beats f_past_rhythms
def wp_X9_drift_h16 (Q : Int32 → Int32 → Int32 → Int32 → Int32 → Int32 → (Nat → Int32) → (Nat → Int32) → Prop) : Nat → Int32 → Int32 → Int32 → Int32 → Int32 → Int32 → Int32 → (Nat → Int32) → (Nat → Int32) → Prop
  | 0, _, _, _, _, _, _, _, _, _ => False
  | z16 + 1, l1, l2, v_beats, v_rhythm, v_draws, v_past_next, v_past_count, f_past_beats, f_past_rhythms => (l1 ≤ l2 → (Q v_rhythm v_beats v_rhythm v_draws v_past_next v_past_count f_past_beats f_past_rhythms)) ∧ (¬ l1 ≤ l2 → (wp_X9_changeByDraws v_beats v_rhythm v_draws v_past_next v_past_count f_past_beats f_past_rhythms fun (u2 : Int32) (u3 : Int32) (u4 : Int32) (u5 : Int32) (u6 : Int32) (u7 : (Nat → Int32)) (u8 : (Nat → Int32)) => ∀ x9 : Int32, x9 = l2 + 1 → (wp_X9_drift_h16 Q z16) l1 x9 u2 u3 u4 u5 u6 u7 u8))
def wp_X9_drift (v_beats : Int32) (v_rhythm : Int32) (v_draws : Int32) (v_past_next : Int32) (v_past_count : Int32) (f_past_beats : (Nat → Int32)) (f_past_rhythms : (Nat → Int32)) (p1 : Int32) (Q : Int32 → Int32 → Int32 → Int32 → Int32 → Int32 → (Nat → Int32) → (Nat → Int32) → Prop) : Prop := (p1 < 1 → (wp_X9_drift_j11 Q v_beats v_rhythm v_draws v_past_next v_past_count f_past_beats f_past_rhythms)) ∧ (¬ p1 < 1 → ((p1 ≤ 30 → (∃ k12 : Nat, wp_X9_drift_h16 Q k12 p1 0 v_beats v_rhythm v_draws v_past_next v_past_count f_past_beats f_past_rhythms)) ∧ (¬ p1 ≤ 30 → (wp_X9_drift_j11 Q v_beats v_rhythm v_draws v_past_next v_past_count f_past_beats f_past_rhythms))))
abbrev rmX9_drift : Room := { frames := 5, cells := 0, slots := 0, locals := 107 }
set_option maxRecDepth 20000 in
theorem iX9_drift_X9 : ∀ w ∈ wsX90, w ∈ wsX9_drift := by decide +kernel
set_option maxHeartbeats 4000000 in
set_option maxRecDepth 100000 in
theorem c_X9_drift (l : Launch) (dC : Nat → ClassId) (dI : Nat → Nat → Nat) (cI cZ : ClassId) (q0 q_text q_past q_ear q_tilings q_mending q_images q_past_beats q_past_rhythms : Nat) (sz : Nat) (v_beats : Int32) (v_rhythm : Int32) (v_draws : Int32) (v_faultAt : Int32) (v_past_next : Int32) (v_past_count : Int32) (f_past_beats : (Nat → Int32)) (f_past_rhythms : (Nat → Int32)) (p1 : Int32) (Q : Int32 → Int32 → Int32 → Int32 → Int32 → Int32 → (Nat → Int32) → (Nat → Int32) → Prop) (h : wp_X9_drift v_beats v_rhythm v_draws v_past_next v_past_count f_past_beats f_past_rhythms p1 Q) : Met l yX9_drift wsX9_drift (rmX9_drift) (va_Pc [.ref q0, .int p1] (fun U => U.heap.size = sz ∧ va_P (dC, dI) vwCl [(q0, .inr (6, [.ref q_text, .ref q_past, .ref q_ear, .ref q_tilings, .ref q_mending, .ref q_images, .int v_beats, .int v_rhythm, .int v_draws, .int v_faultAt])), (q_past, .inr (3, [.ref q_past_beats, .ref q_past_rhythms, .int v_past_next, .int v_past_count])), (q_past_beats, .inl (cI, 30, .inl f_past_beats)), (q_past_rhythms, .inl (cI, 30, .inl f_past_rhythms))] U.heap ∧ va_K (dC, dI) vwCl (tyZ cI cZ) U ∧ va_D (fun _ => True) [(q0, .inr (6, [.ref q_text, .ref q_past, .ref q_ear, .ref q_tilings, .ref q_mending, .ref q_images, .int v_beats, .int v_rhythm, .int v_draws, .int v_faultAt])), (q_past, .inr (3, [.ref q_past_beats, .ref q_past_rhythms, .int v_past_next, .int v_past_count])), (q_past_beats, .inl (cI, 30, .inl f_past_beats)), (q_past_rhythms, .inl (cI, 30, .inl f_past_rhythms))] ∧ nW U)) (va_Qi (fun (r : Int32) (u : Int32 × Int32 × Int32 × Int32 × Int32 × (Nat → Int32) × (Nat → Int32)) => Q r u.1 u.2.1 u.2.2.1 u.2.2.2.1 u.2.2.2.2.1 u.2.2.2.2.2.1 u.2.2.2.2.2.2) (fun (u : Int32 × Int32 × Int32 × Int32 × Int32 × (Nat → Int32) × (Nat → Int32)) (t : State) => va_P (dC, dI) vwCl [(q0, .inr (6, [.ref q_text, .ref q_past, .ref q_ear, .ref q_tilings, .ref q_mending, .ref q_images, .int u.1, .int u.2.1, .int u.2.2.1, .int v_faultAt])), (q_past, .inr (3, [.ref q_past_beats, .ref q_past_rhythms, .int u.2.2.2.1, .int u.2.2.2.2.1])), (q_past_beats, .inl (cI, 30, .inl u.2.2.2.2.2.1)), (q_past_rhythms, .inl (cI, 30, .inl u.2.2.2.2.2.2))] t.heap ∧ va_D (va_A [(q0, .inr (6, [.ref q_text, .ref q_past, .ref q_ear, .ref q_tilings, .ref q_mending, .ref q_images, .int v_beats, .int v_rhythm, .int v_draws, .int v_faultAt])), (q_past, .inr (3, [.ref q_past_beats, .ref q_past_rhythms, .int v_past_next, .int v_past_count])), (q_past_beats, .inl (cI, 30, .inl f_past_beats)), (q_past_rhythms, .inl (cI, 30, .inl f_past_rhythms))] sz) [(q0, .inr (6, [.ref q_text, .ref q_past, .ref q_ear, .ref q_tilings, .ref q_mending, .ref q_images, .int u.1, .int u.2.1, .int u.2.2.1, .int v_faultAt])), (q_past, .inr (3, [.ref q_past_beats, .ref q_past_rhythms, .int u.2.2.2.1, .int u.2.2.2.2.1])), (q_past_beats, .inl (cI, 30, .inl u.2.2.2.2.2.1)), (q_past_rhythms, .inl (cI, 30, .inl u.2.2.2.2.2.2))]) (va_A [(q0, .inr (6, [.ref q_text, .ref q_past, .ref q_ear, .ref q_tilings, .ref q_mending, .ref q_images, .int v_beats, .int v_rhythm, .int v_draws, .int v_faultAt])), (q_past, .inr (3, [.ref q_past_beats, .ref q_past_rhythms, .int v_past_next, .int v_past_count])), (q_past_beats, .inl (cI, 30, .inl f_past_beats)), (q_past_rhythms, .inl (cI, 30, .inl f_past_rhythms))] sz)) 0 0 (va_A [(q0, .inr (6, [.ref q_text, .ref q_past, .ref q_ear, .ref q_tilings, .ref q_mending, .ref q_images, .int v_beats, .int v_rhythm, .int v_draws, .int v_faultAt])), (q_past, .inr (3, [.ref q_past_beats, .ref q_past_rhythms, .int v_past_next, .int v_past_count])), (q_past_beats, .inl (cI, 30, .inl f_past_beats)), (q_past_rhythms, .inl (cI, 30, .inl f_past_rhythms))] sz) := by
  unfold wp_X9_drift at h
  refine Met.ofW (cc := cX9_drift) (maxL := 3) (ret := (some .int)) (by decide) rfl ?_
  intro p e s m args below meth c s₁ B hml hv
  obtain ⟨rfl, hsz, hP, hK, hD0, hN⟩ := hv
  have hx := B.exec
  have hb := B.bytes
  have hr := B.returns
  have hts := atoms_spec (ws := wsX9_drift) B.pre
  have hown : s.vm.findClass RX9 = some m.cls := findClass_of_methodNamed B.named
  have hlocks := B.notSynchronized
  subst hsz
  have hD := hD0.self (sz := s.heap.size)
  generalize hAe : va_A [(q0, .inr (6, [.ref q_text, .ref q_past, .ref q_ear, .ref q_tilings, .ref q_mending, .ref q_images, .int v_beats, .int v_rhythm, .int v_draws, .int v_faultAt])), (q_past, .inr (3, [.ref q_past_beats, .ref q_past_rhythms, .int v_past_next, .int v_past_count])), (q_past_beats, .inl (cI, 30, .inl f_past_beats)), (q_past_rhythms, .inl (cI, 30, .inl f_past_rhythms))] s.heap.size = A at hD ⊢
  have hA : ∀ q : Nat, s.heap.size ≤ q → A q := fun q h => by rw [← hAe]; exact Or.inr h
  clear hAe
  have hS : va_S A s.heap s.heap [] := va_S.rf
  have w11 : ∀ (v_beats : Int32) (v_rhythm : Int32) (v_draws : Int32) (v_past_next : Int32) (v_past_count : Int32) (f_past_beats : (Nat → Int32)) (f_past_rhythms : (Nat → Int32)), wp_X9_drift_j11 Q v_beats v_rhythm v_draws v_past_next v_past_count f_past_beats f_past_rhythms → ∀ (H : Heap) (locs : List Loc) (ls : Array Slot), va_P (dC, dI) vwCl [(q0, .inr (6, [.ref q_text, .ref q_past, .ref q_ear, .ref q_tilings, .ref q_mending, .ref q_images, .int v_beats, .int v_rhythm, .int v_draws, .int v_faultAt])), (q_past, .inr (3, [.ref q_past_beats, .ref q_past_rhythms, .int v_past_next, .int v_past_count])), (q_past_beats, .inl (cI, 30, .inl f_past_beats)), (q_past_rhythms, .inl (cI, 30, .inl f_past_rhythms))] H → va_D A [(q0, .inr (6, [.ref q_text, .ref q_past, .ref q_ear, .ref q_tilings, .ref q_mending, .ref q_images, .int v_beats, .int v_rhythm, .int v_draws, .int v_faultAt])), (q_past, .inr (3, [.ref q_past_beats, .ref q_past_rhythms, .int v_past_next, .int v_past_count])), (q_past_beats, .inl (cI, 30, .inl f_past_beats)), (q_past_rhythms, .inl (cI, 30, .inl f_past_rhythms))] → va_S A s.heap H locs → lv_has ls 3 [] → W p l e (headSpec wsX9_drift (rmX9_drift)).room s m ([.ref q0, .int p1] : List Value).toArray below meth c H locs 0 0 (MQ below (va_Qi (fun (r : Int32) (u : Int32 × Int32 × Int32 × Int32 × Int32 × (Nat → Int32) × (Nat → Int32)) => Q r u.1 u.2.1 u.2.2.1 u.2.2.2.1 u.2.2.2.2.1 u.2.2.2.2.2.1 u.2.2.2.2.2.2) (fun (u : Int32 × Int32 × Int32 × Int32 × Int32 × (Nat → Int32) × (Nat → Int32)) (t : State) => va_P (dC, dI) vwCl [(q0, .inr (6, [.ref q_text, .ref q_past, .ref q_ear, .ref q_tilings, .ref q_mending, .ref q_images, .int u.1, .int u.2.1, .int u.2.2.1, .int v_faultAt])), (q_past, .inr (3, [.ref q_past_beats, .ref q_past_rhythms, .int u.2.2.2.1, .int u.2.2.2.2.1])), (q_past_beats, .inl (cI, 30, .inl u.2.2.2.2.2.1)), (q_past_rhythms, .inl (cI, 30, .inl u.2.2.2.2.2.2))] t.heap ∧ va_D A [(q0, .inr (6, [.ref q_text, .ref q_past, .ref q_ear, .ref q_tilings, .ref q_mending, .ref q_images, .int u.1, .int u.2.1, .int u.2.2.1, .int v_faultAt])), (q_past, .inr (3, [.ref q_past_beats, .ref q_past_rhythms, .int u.2.2.2.1, .int u.2.2.2.2.1])), (q_past_beats, .inl (cI, 30, .inl u.2.2.2.2.2.1)), (q_past_rhythms, .inl (cI, 30, .inl u.2.2.2.2.2.2))]) A) ([.ref q0, .int p1] : List Value).toArray s 0 0 A) (F0 m 11 ls []) := by
    intro v_beats v_rhythm v_draws v_past_next v_past_count f_past_beats f_past_rhythms h H locs ls hP hD hS hl
    unfold wp_X9_drift_j11 at h
    refine lv_ldc (v := (-1000000002)) hx hb hown (hts (.constant RX9 66 (-1000000002)) (by decide +kernel)) dX9_drift_11 ?_
    exact W.iret (v := (-1000000002)) hx hb hr (fun t ht hW => ⟨⟨_, (v_beats, v_rhythm, v_draws, v_past_next, v_past_count, f_past_beats, f_past_rhythms), rfl, h, by rw [ht]; exact hP, hD⟩, hS.F ht⟩) hS.2.2 dX9_drift_13
  have w16 : ∀ (z16 : Nat) (l1 : Int32) (l2 : Int32) (v_beats : Int32) (v_rhythm : Int32) (v_draws : Int32) (v_past_next : Int32) (v_past_count : Int32) (f_past_beats : (Nat → Int32)) (f_past_rhythms : (Nat → Int32)), wp_X9_drift_h16 Q z16 l1 l2 v_beats v_rhythm v_draws v_past_next v_past_count f_past_beats f_past_rhythms → ∀ (H : Heap) (locs : List Loc) (ls : Array Slot), va_P (dC, dI) vwCl [(q0, .inr (6, [.ref q_text, .ref q_past, .ref q_ear, .ref q_tilings, .ref q_mending, .ref q_images, .int v_beats, .int v_rhythm, .int v_draws, .int v_faultAt])), (q_past, .inr (3, [.ref q_past_beats, .ref q_past_rhythms, .int v_past_next, .int v_past_count])), (q_past_beats, .inl (cI, 30, .inl f_past_beats)), (q_past_rhythms, .inl (cI, 30, .inl f_past_rhythms))] H → va_D A [(q0, .inr (6, [.ref q_text, .ref q_past, .ref q_ear, .ref q_tilings, .ref q_mending, .ref q_images, .int v_beats, .int v_rhythm, .int v_draws, .int v_faultAt])), (q_past, .inr (3, [.ref q_past_beats, .ref q_past_rhythms, .int v_past_next, .int v_past_count])), (q_past_beats, .inl (cI, 30, .inl f_past_beats)), (q_past_rhythms, .inl (cI, 30, .inl f_past_rhythms))] → va_S A s.heap H locs → lv_has ls 3 [(0, .ref q0), (1, .int l1), (2, .int l2)] → W p l e (headSpec wsX9_drift (rmX9_drift)).room s m ([.ref q0, .int p1] : List Value).toArray below meth c H locs 0 0 (MQ below (va_Qi (fun (r : Int32) (u : Int32 × Int32 × Int32 × Int32 × Int32 × (Nat → Int32) × (Nat → Int32)) => Q r u.1 u.2.1 u.2.2.1 u.2.2.2.1 u.2.2.2.2.1 u.2.2.2.2.2.1 u.2.2.2.2.2.2) (fun (u : Int32 × Int32 × Int32 × Int32 × Int32 × (Nat → Int32) × (Nat → Int32)) (t : State) => va_P (dC, dI) vwCl [(q0, .inr (6, [.ref q_text, .ref q_past, .ref q_ear, .ref q_tilings, .ref q_mending, .ref q_images, .int u.1, .int u.2.1, .int u.2.2.1, .int v_faultAt])), (q_past, .inr (3, [.ref q_past_beats, .ref q_past_rhythms, .int u.2.2.2.1, .int u.2.2.2.2.1])), (q_past_beats, .inl (cI, 30, .inl u.2.2.2.2.2.1)), (q_past_rhythms, .inl (cI, 30, .inl u.2.2.2.2.2.2))] t.heap ∧ va_D A [(q0, .inr (6, [.ref q_text, .ref q_past, .ref q_ear, .ref q_tilings, .ref q_mending, .ref q_images, .int u.1, .int u.2.1, .int u.2.2.1, .int v_faultAt])), (q_past, .inr (3, [.ref q_past_beats, .ref q_past_rhythms, .int u.2.2.2.1, .int u.2.2.2.2.1])), (q_past_beats, .inl (cI, 30, .inl u.2.2.2.2.2.1)), (q_past_rhythms, .inl (cI, 30, .inl u.2.2.2.2.2.2))]) A) ([.ref q0, .int p1] : List Value).toArray s 0 0 A) (F0 m 16 ls []) := by
    intro z16
    induction z16 with
    | zero => intro l1 l2 v_beats v_rhythm v_draws v_past_next v_past_count f_past_beats f_past_rhythms h; unfold wp_X9_drift_h16 at h; exact h.elim
    | succ z16 k16 =>
      intro l1 l2 v_beats v_rhythm v_draws v_past_next v_past_count f_past_beats f_past_rhythms h H locs ls hP hD hS hl
      unfold wp_X9_drift_h16 at h
      refine lv_iload_n hx hb dX9_drift_16 rfl (lv_at hl 2 rfl) ?_
      refine lv_iload_n hx hb dX9_drift_17 rfl (lv_at hl 1 rfl) ?_
      refine lv_icmp_ge (tgt := 31) hx hb dX9_drift_18 (by decide) (fun c1 => ?_) (fun c1 => ?_)
      · replace h := h.1 c1
        refine lv_aload_n hx hb dX9_drift_31 rfl (lv_at hl 0 rfl) ?_
        refine va_get (D := (dC, dI)) (ci := 6) (v := .int v_rhythm) (C := RX9) (T := TX9) (N := 10) hx hb hts iX9_drift_X9 hown hK hP 0 rfl rfl 7 (by decide) (hts (.fieldLink RX9 57 "TilingBeats" "rhythm" "I") (by decide +kernel)) (fun _ h9 => h9) rfl dX9_drift_32 ?_
        exact W.iret (v := v_rhythm) hx hb hr (fun t ht hW => ⟨⟨_, (v_beats, v_rhythm, v_draws, v_past_next, v_past_count, f_past_beats, f_past_rhythms), rfl, h, by rw [ht]; exact hP, hD⟩, hS.F ht⟩) hS.2.2 dX9_drift_35
      · replace h := h.2 c1
        refine lv_aload_n hx hb dX9_drift_21 rfl (lv_at hl 0 rfl) ?_
        have hPc := hP.sub (ws' := [(q0, .inr (6, [.ref q_text, .ref q_past, .ref q_ear, .ref q_tilings, .ref q_mending, .ref q_images, .int v_beats, .int v_rhythm, .int v_draws, .int v_faultAt])), (q_past, .inr (3, [.ref q_past_beats, .ref q_past_rhythms, .int v_past_next, .int v_past_count])), (q_past_beats, .inl (cI, 30, .inl f_past_beats)), (q_past_rhythms, .inl (cI, 30, .inl f_past_rhythms))]) [0, 1, 2, 3] rfl
        have hDc := hD.sub (ws' := [(q0, .inr (6, [.ref q_text, .ref q_past, .ref q_ear, .ref q_tilings, .ref q_mending, .ref q_images, .int v_beats, .int v_rhythm, .int v_draws, .int v_faultAt])), (q_past, .inr (3, [.ref q_past_beats, .ref q_past_rhythms, .int v_past_next, .int v_past_count])), (q_past_beats, .inl (cI, 30, .inl f_past_beats)), (q_past_rhythms, .inl (cI, 30, .inl f_past_rhythms))]) [0, 1, 2, 3] (by decide) rfl
        have hFc := va_free (wc := [(q0, .inr (6, [.ref q_text, .ref q_past, .ref q_ear, .ref q_tilings, .ref q_mending, .ref q_images, .int v_beats, .int v_rhythm, .int v_draws, .int v_faultAt])), (q_past, .inr (3, [.ref q_past_beats, .ref q_past_rhythms, .int v_past_next, .int v_past_count])), (q_past_beats, .inl (cI, 30, .inl f_past_beats)), (q_past_rhythms, .inl (cI, 30, .inl f_past_rhythms))]) hD hS hA [0, 1, 2, 3] rfl
        refine va_callv (va_runV (As := []) (rest := []) ⟨hx, hb, hml, hown, hts⟩ (c_X9_changeByDraws l dC dI cI cZ q0 q_text q_past q_ear q_tilings q_mending q_images q_past_beats q_past_rhythms H.size v_beats v_rhythm v_draws v_faultAt v_past_next v_past_count f_past_beats f_past_rhythms  _ h) (cwV 0 hts gX9_drift_X9_changeByDraws rfl rfl rfl (by decide +kernel) ⟨Nat.le_of_ble_eq_true rfl, Nat.le_of_ble_eq_true rfl⟩) ⟨fun a U g mk q => ⟨q.1, q.2.1, q.2.2.1, va_K.moved (u := U) (U := U.calling g mk a) (Vm.Alike.refl U.vm) q.2.2.2.1, q.2.2.2.2.1, nW_call q.2.2.2.2.2⟩, va_recv hK hPc (ci := 6) (q0 := 0) rfl rfl, fun U hU hW => ⟨rfl, by rw [hU], by rw [hU]; exact hPc, va_K.moved hW.alike hK, hDc.weaken (fun _ _ _ _ => trivial), nW_warm hW hN⟩⟩ rfl rfl hl.1 rfl (lv_room (Nat.le_of_ble_eq_true rfl)) dX9_drift_22 ⟨Nat.le_of_ble_eq_true rfl, Nat.le_of_ble_eq_true rfl⟩) hS (fun q _ h => hFc q h) hFc (fun u t H1 locs ht hvm hw hB hz1 hk1 hS => ?_)
        obtain ⟨u2, u3, u4, u5, u6, u7, u8⟩ := u
        obtain ⟨hP1, hD1⟩ := hB
        rw [ht] at hP1
        replace h := hw
        try dsimp only at h
        obtain ⟨hP, hD⟩ := va_join (wr := []) (w1 := [(q0, .inr (6, [.ref q_text, .ref q_past, .ref q_ear, .ref q_tilings, .ref q_mending, .ref q_images, .int u2, .int u3, .int u4, .int v_faultAt])), (q_past, .inr (3, [.ref q_past_beats, .ref q_past_rhythms, .int u5, .int u6])), (q_past_beats, .inl (cI, 30, .inl u7)), (q_past_rhythms, .inl (cI, 30, .inl u8))]) hP hD [0, 1, 2, 3] [] rfl rfl (by decide) (by decide) hk1 hFc hP1 hD1
        clear hP1 hD1 hFc hDc hPc hk1 hz1 hw hvm ht
        generalize H1 = H at hP hS ⊢
        have hP : va_P (dC, dI) vwCl [(q0, .inr (6, [.ref q_text, .ref q_past, .ref q_ear, .ref q_tilings, .ref q_mending, .ref q_images, .int u2, .int u3, .int u4, .int v_faultAt])), (q_past, .inr (3, [.ref q_past_beats, .ref q_past_rhythms, .int u5, .int u6])), (q_past_beats, .inl (cI, 30, .inl u7)), (q_past_rhythms, .inl (cI, 30, .inl u8))] H := hP.sub [0, 1, 2, 3] rfl
        have hD : va_D A [(q0, .inr (6, [.ref q_text, .ref q_past, .ref q_ear, .ref q_tilings, .ref q_mending, .ref q_images, .int u2, .int u3, .int u4, .int v_faultAt])), (q_past, .inr (3, [.ref q_past_beats, .ref q_past_rhythms, .int u5, .int u6])), (q_past_beats, .inl (cI, 30, .inl u7)), (q_past_rhythms, .inl (cI, 30, .inl u8))] := hD.sub [0, 1, 2, 3] (by decide) rfl
        obtain ⟨x9, ex9⟩ : ∃ y : Int32, y = l2 + 1 := ⟨_, rfl⟩
        replace h := h x9 ex9
        refine lv_iinc (v := x9) (lv' := [(2, .int x9), (0, .ref q0), (1, .int l1)]) hx hb dX9_drift_25 hl (k := 2) rfl (by rw [ex9]; rfl) (by decide) rfl (fun ls hl => ?_)
        refine lv_goto (tgt := 16) hx hb dX9_drift_28 (by decide) ?_
        exact k16 l1 x9 u2 u3 u4 u5 u6 u7 u8 h H locs ls hP hD hS (lv_sub hl [1, 2, 0] rfl)
  have hl := lv_entry ([.ref q0, .int p1]) (n := 3) (Nat.le_of_ble_eq_true rfl)
  rw [lg_entry_eq]
  generalize (lg_sl ([.ref q0, .int p1]) ++ List.replicate (3 - (lg_sl ([.ref q0, .int p1])).length) Slot.unset).toArray = ls at hl ⊢
  have hl : lv_has ls 3 [(0, .ref q0), (1, .int p1)] := hl
  refine lv_iload_n hx hb dX9_drift_0 rfl (lv_at hl 1 rfl) ?_
  refine lv_iconst (v := 1) hx hb dX9_drift_1 (by decide) ?_
  refine lv_icmp_lt (tgt := 11) hx hb dX9_drift_2 (by decide) (fun c10 => ?_) (fun c10 => ?_)
  · replace h := h.1 c10
    exact w11 v_beats v_rhythm v_draws v_past_next v_past_count f_past_beats f_past_rhythms h s.heap [] ls hP hD hS (lv_sub hl [] rfl)
  · replace h := h.2 c10
    refine lv_iload_n hx hb dX9_drift_5 rfl (lv_at hl 1 rfl) ?_
    refine lv_bipush (v := 30) hx hb dX9_drift_6 (by decide) ?_
    refine lv_icmp_le (tgt := 14) hx hb dX9_drift_8 (by decide) (fun c11 => ?_) (fun c11 => ?_)
    · replace h := h.1 c11
      refine lv_iconst (v := 0) hx hb dX9_drift_14 (by decide) ?_
      refine lv_istore_n (lv' := [(2, .int 0), (0, .ref q0), (1, .int p1)]) hx hb dX9_drift_15 rfl hl (by decide) rfl (fun ls hl => ?_)
      obtain ⟨k12, h⟩ := h
      exact w16 k12 p1 0 v_beats v_rhythm v_draws v_past_next v_past_count f_past_beats f_past_rhythms h s.heap [] ls hP hD hS (lv_sub hl [1, 2, 0] rfl)
    · replace h := h.2 c11
      exact w11 v_beats v_rhythm v_draws v_past_next v_past_count f_past_beats f_past_rhythms h s.heap [] ls hP hD hS (lv_sub hl [] rfl)

def wp_X9_undo_j11 (f_past_beats : (Nat → Int32)) (f_past_rhythms : (Nat → Int32)) (Q : Int32 → Int32 → Int32 → Int32 → Int32 → Prop) (v_beats : Int32) (v_rhythm : Int32) (v_past_next : Int32) (v_past_count : Int32) : Prop := Q (-1000000002) v_beats v_rhythm v_past_next v_past_count
def wp_X9_undo (v_beats : Int32) (v_rhythm : Int32) (v_past_next : Int32) (v_past_count : Int32) (f_past_beats : (Nat → Int32)) (f_past_rhythms : (Nat → Int32)) (p1 : Int32) (Q : Int32 → Int32 → Int32 → Int32 → Int32 → Prop) : Prop := (p1 < 1 → (wp_X9_undo_j11 f_past_beats f_past_rhythms Q v_beats v_rhythm v_past_next v_past_count)) ∧ (¬ p1 < 1 → ((p1 ≤ 30 → ((p1 ≤ v_past_count → (wp_X5_stepBack v_past_next v_past_count p1 fun (u4 : Int32) (u5 : Int32) => wp_X5_beatsThen u4 f_past_beats fun (r6 : Int32) => wp_X5_rhythmThen u4 f_past_rhythms fun (r7 : Int32) => Q r6 r6 r7 u4 u5)) ∧ (¬ p1 ≤ v_past_count → (Q (-1000000003) v_beats v_rhythm v_past_next v_past_count)))) ∧ (¬ p1 ≤ 30 → (wp_X9_undo_j11 f_past_beats f_past_rhythms Q v_beats v_rhythm v_past_next v_past_count))))
abbrev rmX9_undo : Room := { frames := 3, cells := 0, slots := 0, locals := 62 }
set_option maxRecDepth 20000 in
theorem iX9_undo_X5 : ∀ w ∈ wsX50, w ∈ wsX9_undo := by decide +kernel
set_option maxRecDepth 20000 in
theorem iX9_undo_X9 : ∀ w ∈ wsX90, w ∈ wsX9_undo := by decide +kernel
set_option maxHeartbeats 4000000 in
set_option maxRecDepth 100000 in
theorem c_X9_undo (l : Launch) (dC : Nat → ClassId) (dI : Nat → Nat → Nat) (cI cZ : ClassId) (q0 q_text q_past q_ear q_tilings q_mending q_images q_past_beats q_past_rhythms : Nat) (sz : Nat) (v_beats : Int32) (v_rhythm : Int32) (v_draws : Int32) (v_faultAt : Int32) (v_past_next : Int32) (v_past_count : Int32) (f_past_beats : (Nat → Int32)) (f_past_rhythms : (Nat → Int32)) (p1 : Int32) (Q : Int32 → Int32 → Int32 → Int32 → Int32 → Prop) (h : wp_X9_undo v_beats v_rhythm v_past_next v_past_count f_past_beats f_past_rhythms p1 Q) : Met l yX9_undo wsX9_undo (rmX9_undo) (va_Pc [.ref q0, .int p1] (fun U => U.heap.size = sz ∧ va_P (dC, dI) vwCl [(q0, .inr (6, [.ref q_text, .ref q_past, .ref q_ear, .ref q_tilings, .ref q_mending, .ref q_images, .int v_beats, .int v_rhythm, .int v_draws, .int v_faultAt])), (q_past, .inr (3, [.ref q_past_beats, .ref q_past_rhythms, .int v_past_next, .int v_past_count])), (q_past_beats, .inl (cI, 30, .inl f_past_beats)), (q_past_rhythms, .inl (cI, 30, .inl f_past_rhythms))] U.heap ∧ va_K (dC, dI) vwCl (tyZ cI cZ) U ∧ va_D (fun _ => True) [(q0, .inr (6, [.ref q_text, .ref q_past, .ref q_ear, .ref q_tilings, .ref q_mending, .ref q_images, .int v_beats, .int v_rhythm, .int v_draws, .int v_faultAt])), (q_past, .inr (3, [.ref q_past_beats, .ref q_past_rhythms, .int v_past_next, .int v_past_count])), (q_past_beats, .inl (cI, 30, .inl f_past_beats)), (q_past_rhythms, .inl (cI, 30, .inl f_past_rhythms))] ∧ nW U)) (va_Qi (fun (r : Int32) (u : Int32 × Int32 × Int32 × Int32) => Q r u.1 u.2.1 u.2.2.1 u.2.2.2) (fun (u : Int32 × Int32 × Int32 × Int32) (t : State) => va_P (dC, dI) vwCl [(q0, .inr (6, [.ref q_text, .ref q_past, .ref q_ear, .ref q_tilings, .ref q_mending, .ref q_images, .int u.1, .int u.2.1, .int v_draws, .int v_faultAt])), (q_past, .inr (3, [.ref q_past_beats, .ref q_past_rhythms, .int u.2.2.1, .int u.2.2.2])), (q_past_beats, .inl (cI, 30, .inl f_past_beats)), (q_past_rhythms, .inl (cI, 30, .inl f_past_rhythms))] t.heap ∧ va_D (va_A [(q0, .inr (6, [.ref q_text, .ref q_past, .ref q_ear, .ref q_tilings, .ref q_mending, .ref q_images, .int v_beats, .int v_rhythm, .int v_draws, .int v_faultAt])), (q_past, .inr (3, [.ref q_past_beats, .ref q_past_rhythms, .int v_past_next, .int v_past_count])), (q_past_beats, .inl (cI, 30, .inl f_past_beats)), (q_past_rhythms, .inl (cI, 30, .inl f_past_rhythms))] sz) [(q0, .inr (6, [.ref q_text, .ref q_past, .ref q_ear, .ref q_tilings, .ref q_mending, .ref q_images, .int u.1, .int u.2.1, .int v_draws, .int v_faultAt])), (q_past, .inr (3, [.ref q_past_beats, .ref q_past_rhythms, .int u.2.2.1, .int u.2.2.2])), (q_past_beats, .inl (cI, 30, .inl f_past_beats)), (q_past_rhythms, .inl (cI, 30, .inl f_past_rhythms))]) (va_A [(q0, .inr (6, [.ref q_text, .ref q_past, .ref q_ear, .ref q_tilings, .ref q_mending, .ref q_images, .int v_beats, .int v_rhythm, .int v_draws, .int v_faultAt])), (q_past, .inr (3, [.ref q_past_beats, .ref q_past_rhythms, .int v_past_next, .int v_past_count])), (q_past_beats, .inl (cI, 30, .inl f_past_beats)), (q_past_rhythms, .inl (cI, 30, .inl f_past_rhythms))] sz)) 0 0 (va_A [(q0, .inr (6, [.ref q_text, .ref q_past, .ref q_ear, .ref q_tilings, .ref q_mending, .ref q_images, .int v_beats, .int v_rhythm, .int v_draws, .int v_faultAt])), (q_past, .inr (3, [.ref q_past_beats, .ref q_past_rhythms, .int v_past_next, .int v_past_count])), (q_past_beats, .inl (cI, 30, .inl f_past_beats)), (q_past_rhythms, .inl (cI, 30, .inl f_past_rhythms))] sz) := by
  unfold wp_X9_undo at h
  refine Met.ofW (cc := cX9_undo) (maxL := 2) (ret := (some .int)) (by decide) rfl ?_
  intro p e s m args below meth c s₁ B hml hv
  obtain ⟨rfl, hsz, hP, hK, hD0, hN⟩ := hv
  have hx := B.exec
  have hb := B.bytes
  have hr := B.returns
  have hts := atoms_spec (ws := wsX9_undo) B.pre
  have hown : s.vm.findClass RX9 = some m.cls := findClass_of_methodNamed B.named
  have hlocks := B.notSynchronized
  subst hsz
  have hD := hD0.self (sz := s.heap.size)
  generalize hAe : va_A [(q0, .inr (6, [.ref q_text, .ref q_past, .ref q_ear, .ref q_tilings, .ref q_mending, .ref q_images, .int v_beats, .int v_rhythm, .int v_draws, .int v_faultAt])), (q_past, .inr (3, [.ref q_past_beats, .ref q_past_rhythms, .int v_past_next, .int v_past_count])), (q_past_beats, .inl (cI, 30, .inl f_past_beats)), (q_past_rhythms, .inl (cI, 30, .inl f_past_rhythms))] s.heap.size = A at hD ⊢
  have hA : ∀ q : Nat, s.heap.size ≤ q → A q := fun q h => by rw [← hAe]; exact Or.inr h
  clear hAe
  have hS : va_S A s.heap s.heap [] := va_S.rf
  have w11 : ∀ (v_beats : Int32) (v_rhythm : Int32) (v_past_next : Int32) (v_past_count : Int32), wp_X9_undo_j11 f_past_beats f_past_rhythms Q v_beats v_rhythm v_past_next v_past_count → ∀ (H : Heap) (locs : List Loc) (ls : Array Slot), va_P (dC, dI) vwCl [(q0, .inr (6, [.ref q_text, .ref q_past, .ref q_ear, .ref q_tilings, .ref q_mending, .ref q_images, .int v_beats, .int v_rhythm, .int v_draws, .int v_faultAt])), (q_past, .inr (3, [.ref q_past_beats, .ref q_past_rhythms, .int v_past_next, .int v_past_count])), (q_past_beats, .inl (cI, 30, .inl f_past_beats)), (q_past_rhythms, .inl (cI, 30, .inl f_past_rhythms))] H → va_D A [(q0, .inr (6, [.ref q_text, .ref q_past, .ref q_ear, .ref q_tilings, .ref q_mending, .ref q_images, .int v_beats, .int v_rhythm, .int v_draws, .int v_faultAt])), (q_past, .inr (3, [.ref q_past_beats, .ref q_past_rhythms, .int v_past_next, .int v_past_count])), (q_past_beats, .inl (cI, 30, .inl f_past_beats)), (q_past_rhythms, .inl (cI, 30, .inl f_past_rhythms))] → va_S A s.heap H locs → lv_has ls 2 [] → W p l e (headSpec wsX9_undo (rmX9_undo)).room s m ([.ref q0, .int p1] : List Value).toArray below meth c H locs 0 0 (MQ below (va_Qi (fun (r : Int32) (u : Int32 × Int32 × Int32 × Int32) => Q r u.1 u.2.1 u.2.2.1 u.2.2.2) (fun (u : Int32 × Int32 × Int32 × Int32) (t : State) => va_P (dC, dI) vwCl [(q0, .inr (6, [.ref q_text, .ref q_past, .ref q_ear, .ref q_tilings, .ref q_mending, .ref q_images, .int u.1, .int u.2.1, .int v_draws, .int v_faultAt])), (q_past, .inr (3, [.ref q_past_beats, .ref q_past_rhythms, .int u.2.2.1, .int u.2.2.2])), (q_past_beats, .inl (cI, 30, .inl f_past_beats)), (q_past_rhythms, .inl (cI, 30, .inl f_past_rhythms))] t.heap ∧ va_D A [(q0, .inr (6, [.ref q_text, .ref q_past, .ref q_ear, .ref q_tilings, .ref q_mending, .ref q_images, .int u.1, .int u.2.1, .int v_draws, .int v_faultAt])), (q_past, .inr (3, [.ref q_past_beats, .ref q_past_rhythms, .int u.2.2.1, .int u.2.2.2])), (q_past_beats, .inl (cI, 30, .inl f_past_beats)), (q_past_rhythms, .inl (cI, 30, .inl f_past_rhythms))]) A) ([.ref q0, .int p1] : List Value).toArray s 0 0 A) (F0 m 11 ls []) := by
    intro v_beats v_rhythm v_past_next v_past_count h H locs ls hP hD hS hl
    unfold wp_X9_undo_j11 at h
    refine lv_ldc (v := (-1000000002)) hx hb hown (hts (.constant RX9 66 (-1000000002)) (by decide +kernel)) dX9_undo_11 ?_
    exact W.iret (v := (-1000000002)) hx hb hr (fun t ht hW => ⟨⟨_, (v_beats, v_rhythm, v_past_next, v_past_count), rfl, h, by rw [ht]; exact hP, hD⟩, hS.F ht⟩) hS.2.2 dX9_undo_13
  have hl := lv_entry ([.ref q0, .int p1]) (n := 2) (Nat.le_of_ble_eq_true rfl)
  rw [lg_entry_eq]
  generalize (lg_sl ([.ref q0, .int p1]) ++ List.replicate (2 - (lg_sl ([.ref q0, .int p1])).length) Slot.unset).toArray = ls at hl ⊢
  have hl : lv_has ls 2 [(0, .ref q0), (1, .int p1)] := hl
  refine lv_iload_n hx hb dX9_undo_0 rfl (lv_at hl 1 rfl) ?_
  refine lv_iconst (v := 1) hx hb dX9_undo_1 (by decide) ?_
  refine lv_icmp_lt (tgt := 11) hx hb dX9_undo_2 (by decide) (fun c1 => ?_) (fun c1 => ?_)
  · replace h := h.1 c1
    exact w11 v_beats v_rhythm v_past_next v_past_count h s.heap [] ls hP hD hS (lv_sub hl [] rfl)
  · replace h := h.2 c1
    refine lv_iload_n hx hb dX9_undo_5 rfl (lv_at hl 1 rfl) ?_
    refine lv_bipush (v := 30) hx hb dX9_undo_6 (by decide) ?_
    refine lv_icmp_le (tgt := 14) hx hb dX9_undo_8 (by decide) (fun c2 => ?_) (fun c2 => ?_)
    · replace h := h.1 c2
      refine lv_iload_n hx hb dX9_undo_14 rfl (lv_at hl 1 rfl) ?_
      refine lv_aload_n hx hb dX9_undo_15 rfl (lv_at hl 0 rfl) ?_
      refine va_get (D := (dC, dI)) (ci := 6) (v := .ref q_past) (C := RX9) (T := TX9) (N := 10) hx hb hts iX9_undo_X9 hown hK hP 0 rfl rfl 1 (by decide) (hts (.fieldLink RX9 19 "TilingBeats" "past" "LTilingBeats$Past;") (by decide +kernel)) (fun _ h9 => h9) rfl dX9_undo_16 ?_
      refine va_getN (D := (dC, dI)) (ci := 3) (v := .int v_past_count) (C := RX5) (T := TX5) (N := 4) hx hb hts iX9_undo_X5 hown hK hP 1 rfl rfl 3 (by decide) (va_Nw.use rfl (nw_4 hN)) (fun _ h9 => h9) rfl dX9_undo_19 ?_
      refine lv_icmp_le (tgt := 28) hx hb dX9_undo_22 (by decide) (fun c3 => ?_) (fun c3 => ?_)
      · replace h := h.1 c3
        refine lv_aload_n hx hb dX9_undo_28 rfl (lv_at hl 0 rfl) ?_
        refine va_get (D := (dC, dI)) (ci := 6) (v := .ref q_past) (C := RX9) (T := TX9) (N := 10) hx hb hts iX9_undo_X9 hown hK hP 0 rfl rfl 1 (by decide) (hts (.fieldLink RX9 19 "TilingBeats" "past" "LTilingBeats$Past;") (by decide +kernel)) (fun _ h9 => h9) rfl dX9_undo_29 ?_
        refine lv_iload_n hx hb dX9_undo_32 rfl (lv_at hl 1 rfl) ?_
        have hPc := hP.sub (ws' := [(q_past, .inr (3, [.ref q_past_beats, .ref q_past_rhythms, .int v_past_next, .int v_past_count]))]) [1] rfl
        have hDc := hD.sub (ws' := [(q_past, .inr (3, [.ref q_past_beats, .ref q_past_rhythms, .int v_past_next, .int v_past_count]))]) [1] (by decide) rfl
        have hFc := va_free (wc := [(q_past, .inr (3, [.ref q_past_beats, .ref q_past_rhythms, .int v_past_next, .int v_past_count]))]) hD hS hA [1] rfl
        refine va_callv (va_runVN (As := [.int p1]) (rest := []) ⟨hx, hb, hml, hown, hts⟩ (c_X5_stepBack l dC dI cI cZ q_past q_past_beats q_past_rhythms s.heap.size v_past_next v_past_count p1 _ h) ⟨va_cnB 1 hts gX9_undo_X5_stepBack_n199 rfl rfl rfl (nw_57 hN) (hts (.initialized RX5) (by decide +kernel)) (by decide +kernel) ⟨Nat.le_of_ble_eq_true rfl, Nat.le_of_ble_eq_true rfl⟩, hts (.instanceMethod yX5_stepBack) (by decide +kernel), hts (.selects RX5 yX5_stepBack yX5_stepBack) (by decide +kernel)⟩ ⟨fun a U g mk q => ⟨q.1, q.2.1, q.2.2.1, va_K.moved (u := U) (U := U.calling g mk a) (Vm.Alike.refl U.vm) q.2.2.2.1, q.2.2.2.2.1, nW_call q.2.2.2.2.2⟩, va_recv hK hPc (ci := 3) (q0 := 0) rfl rfl, fun U hU hW => ⟨rfl, by rw [hU], by rw [hU]; exact hPc, va_K.moved hW.alike hK, hDc.weaken (fun _ _ _ _ => trivial), nW_warm hW hN⟩⟩ rfl rfl hl.1 rfl (lv_room (Nat.le_of_ble_eq_true rfl)) dX9_undo_33 ⟨Nat.le_of_ble_eq_true rfl, Nat.le_of_ble_eq_true rfl⟩) hS (fun q _ h => hFc q h) hFc (fun u t H1 locs ht hvm hw hB hz1 hk1 hS => ?_)
        obtain ⟨u4, u5⟩ := u
        obtain ⟨hP1, hD1⟩ := hB
        rw [ht] at hP1
        replace h := hw
        try dsimp only at h
        obtain ⟨hP, hD⟩ := va_join (wr := [(q0, .inr (6, [.ref q_text, .ref q_past, .ref q_ear, .ref q_tilings, .ref q_mending, .ref q_images, .int v_beats, .int v_rhythm, .int v_draws, .int v_faultAt])), (q_past_beats, .inl (cI, 30, .inl f_past_beats)), (q_past_rhythms, .inl (cI, 30, .inl f_past_rhythms))]) (w1 := [(q_past, .inr (3, [.ref q_past_beats, .ref q_past_rhythms, .int u4, .int u5]))]) hP hD [1] [0, 2, 3] rfl rfl (by decide) (by decide) hk1 hFc hP1 hD1
        clear hP1 hD1 hFc hDc hPc hk1 hz1 hw hvm ht
        generalize H1 = H at hP hS ⊢
        have hP : va_P (dC, dI) vwCl [(q0, .inr (6, [.ref q_text, .ref q_past, .ref q_ear, .ref q_tilings, .ref q_mending, .ref q_images, .int v_beats, .int v_rhythm, .int v_draws, .int v_faultAt])), (q_past, .inr (3, [.ref q_past_beats, .ref q_past_rhythms, .int u4, .int u5])), (q_past_beats, .inl (cI, 30, .inl f_past_beats)), (q_past_rhythms, .inl (cI, 30, .inl f_past_rhythms))] H := hP.sub [0, 3, 1, 2] rfl
        have hD : va_D A [(q0, .inr (6, [.ref q_text, .ref q_past, .ref q_ear, .ref q_tilings, .ref q_mending, .ref q_images, .int v_beats, .int v_rhythm, .int v_draws, .int v_faultAt])), (q_past, .inr (3, [.ref q_past_beats, .ref q_past_rhythms, .int u4, .int u5])), (q_past_beats, .inl (cI, 30, .inl f_past_beats)), (q_past_rhythms, .inl (cI, 30, .inl f_past_rhythms))] := hD.sub [0, 3, 1, 2] (by decide) rfl
        refine lv_aload_n hx hb dX9_undo_36 rfl (lv_at hl 0 rfl) ?_
        refine lv_aload_n hx hb dX9_undo_37 rfl (lv_at hl 0 rfl) ?_
        refine va_get (D := (dC, dI)) (ci := 6) (v := .ref q_past) (C := RX9) (T := TX9) (N := 10) hx hb hts iX9_undo_X9 hown hK hP 0 rfl rfl 1 (by decide) (hts (.fieldLink RX9 19 "TilingBeats" "past" "LTilingBeats$Past;") (by decide +kernel)) (fun _ h9 => h9) rfl dX9_undo_38 ?_
        have hPc := hP.sub (ws' := [(q_past, .inr (3, [.ref q_past_beats, .ref q_past_rhythms, .int u4, .int u5])), (q_past_beats, .inl (cI, 30, .inl f_past_beats))]) [1, 2] rfl
        refine vs_calli (va_runVN (As := []) (rest := [.ref q0]) ⟨hx, hb, hml, hown, hts⟩ (c_X5_beatsThen l dC dI cI cZ q_past q_past_beats q_past_rhythms u4 u5 f_past_beats  _ h) ⟨va_cnB 0 hts gX9_undo_X5_beatsThen_n202 rfl rfl rfl (nw_58 hN) (hts (.initialized RX5) (by decide +kernel)) (by decide +kernel) ⟨Nat.le_of_ble_eq_true rfl, Nat.le_of_ble_eq_true rfl⟩, hts (.instanceMethod yX5_beatsThen) (by decide +kernel), hts (.selects RX5 yX5_beatsThen yX5_beatsThen) (by decide +kernel)⟩ ⟨fun a U g mk q => ⟨q.1, q.2.1, va_K.moved (u := U) (U := U.calling g mk a) (Vm.Alike.refl U.vm) q.2.2.1, nW_call q.2.2.2⟩, va_recv hK hPc (ci := 3) (q0 := 0) rfl rfl, fun U hU hW => ⟨rfl, by rw [hU]; exact hPc, va_K.moved hW.alike hK, nW_warm hW hN⟩⟩ rfl rfl hl.1 rfl (lv_room (Nat.le_of_ble_eq_true rfl)) dX9_undo_41 ⟨Nat.le_of_ble_eq_true rfl, Nat.le_of_ble_eq_true rfl⟩) (fun r6 h => ?_)
        refine va_put (D := (dC, dI)) (ci := 6) (v := .int r6) (ty := .int) (C := RX9) (T := TX9) (N := 10) hx hb hts iX9_undo_X9 tyX9 tyX9_ok nmX9 hown hK hP hD hS 0 rfl rfl 6 (by decide) (hts (.fieldLink RX9 53 "TilingBeats" "beats" "I") (by decide +kernel)) (fun _ h9 => h9) rfl (by decide +kernel) rfl rfl (Nat.le_of_ble_eq_true rfl) dX9_undo_44 (fun H locs hP hD hS => ?_)
        have hP : va_P (dC, dI) vwCl [(q0, .inr (6, [.ref q_text, .ref q_past, .ref q_ear, .ref q_tilings, .ref q_mending, .ref q_images, .int r6, .int v_rhythm, .int v_draws, .int v_faultAt])), (q_past, .inr (3, [.ref q_past_beats, .ref q_past_rhythms, .int u4, .int u5])), (q_past_beats, .inl (cI, 30, .inl f_past_beats)), (q_past_rhythms, .inl (cI, 30, .inl f_past_rhythms))] H := hP
        have hD : va_D A [(q0, .inr (6, [.ref q_text, .ref q_past, .ref q_ear, .ref q_tilings, .ref q_mending, .ref q_images, .int r6, .int v_rhythm, .int v_draws, .int v_faultAt])), (q_past, .inr (3, [.ref q_past_beats, .ref q_past_rhythms, .int u4, .int u5])), (q_past_beats, .inl (cI, 30, .inl f_past_beats)), (q_past_rhythms, .inl (cI, 30, .inl f_past_rhythms))] := hD
        refine lv_aload_n hx hb dX9_undo_47 rfl (lv_at hl 0 rfl) ?_
        refine lv_aload_n hx hb dX9_undo_48 rfl (lv_at hl 0 rfl) ?_
        refine va_get (D := (dC, dI)) (ci := 6) (v := .ref q_past) (C := RX9) (T := TX9) (N := 10) hx hb hts iX9_undo_X9 hown hK hP 0 rfl rfl 1 (by decide) (hts (.fieldLink RX9 19 "TilingBeats" "past" "LTilingBeats$Past;") (by decide +kernel)) (fun _ h9 => h9) rfl dX9_undo_49 ?_
        have hPc := hP.sub (ws' := [(q_past, .inr (3, [.ref q_past_beats, .ref q_past_rhythms, .int u4, .int u5])), (q_past_rhythms, .inl (cI, 30, .inl f_past_rhythms))]) [1, 3] rfl
        refine vs_calli (va_runVN (As := []) (rest := [.ref q0]) ⟨hx, hb, hml, hown, hts⟩ (c_X5_rhythmThen l dC dI cI cZ q_past q_past_beats q_past_rhythms u4 u5 f_past_rhythms  _ h) ⟨va_cnB 0 hts gX9_undo_X5_rhythmThen_n205 rfl rfl rfl (nw_59 hN) (hts (.initialized RX5) (by decide +kernel)) (by decide +kernel) ⟨Nat.le_of_ble_eq_true rfl, Nat.le_of_ble_eq_true rfl⟩, hts (.instanceMethod yX5_rhythmThen) (by decide +kernel), hts (.selects RX5 yX5_rhythmThen yX5_rhythmThen) (by decide +kernel)⟩ ⟨fun a U g mk q => ⟨q.1, q.2.1, va_K.moved (u := U) (U := U.calling g mk a) (Vm.Alike.refl U.vm) q.2.2.1, nW_call q.2.2.2⟩, va_recv hK hPc (ci := 3) (q0 := 0) rfl rfl, fun U hU hW => ⟨rfl, by rw [hU]; exact hPc, va_K.moved hW.alike hK, nW_warm hW hN⟩⟩ rfl rfl hl.1 rfl (lv_room (Nat.le_of_ble_eq_true rfl)) dX9_undo_52 ⟨Nat.le_of_ble_eq_true rfl, Nat.le_of_ble_eq_true rfl⟩) (fun r7 h => ?_)
        refine va_put (D := (dC, dI)) (ci := 6) (v := .int r7) (ty := .int) (C := RX9) (T := TX9) (N := 10) hx hb hts iX9_undo_X9 tyX9 tyX9_ok nmX9 hown hK hP hD hS 0 rfl rfl 7 (by decide) (hts (.fieldLink RX9 57 "TilingBeats" "rhythm" "I") (by decide +kernel)) (fun _ h9 => h9) rfl (by decide +kernel) rfl rfl (Nat.le_of_ble_eq_true rfl) dX9_undo_55 (fun H locs hP hD hS => ?_)
        have hP : va_P (dC, dI) vwCl [(q0, .inr (6, [.ref q_text, .ref q_past, .ref q_ear, .ref q_tilings, .ref q_mending, .ref q_images, .int r6, .int r7, .int v_draws, .int v_faultAt])), (q_past, .inr (3, [.ref q_past_beats, .ref q_past_rhythms, .int u4, .int u5])), (q_past_beats, .inl (cI, 30, .inl f_past_beats)), (q_past_rhythms, .inl (cI, 30, .inl f_past_rhythms))] H := hP
        have hD : va_D A [(q0, .inr (6, [.ref q_text, .ref q_past, .ref q_ear, .ref q_tilings, .ref q_mending, .ref q_images, .int r6, .int r7, .int v_draws, .int v_faultAt])), (q_past, .inr (3, [.ref q_past_beats, .ref q_past_rhythms, .int u4, .int u5])), (q_past_beats, .inl (cI, 30, .inl f_past_beats)), (q_past_rhythms, .inl (cI, 30, .inl f_past_rhythms))] := hD
        refine lv_aload_n hx hb dX9_undo_58 rfl (lv_at hl 0 rfl) ?_
        refine va_get (D := (dC, dI)) (ci := 6) (v := .int r6) (C := RX9) (T := TX9) (N := 10) hx hb hts iX9_undo_X9 hown hK hP 0 rfl rfl 6 (by decide) (hts (.fieldLink RX9 53 "TilingBeats" "beats" "I") (by decide +kernel)) (fun _ h9 => h9) rfl dX9_undo_59 ?_
        exact W.iret (v := r6) hx hb hr (fun t ht hW => ⟨⟨_, (r6, r7, u4, u5), rfl, h, by rw [ht]; exact hP, hD⟩, hS.F ht⟩) hS.2.2 dX9_undo_62
      · replace h := h.2 c3
        refine lv_ldc (v := (-1000000003)) hx hb hown (hts (.constant RX9 169 (-1000000003)) (by decide +kernel)) dX9_undo_25 ?_
        exact W.iret (v := (-1000000003)) hx hb hr (fun t ht hW => ⟨⟨_, (v_beats, v_rhythm, v_past_next, v_past_count), rfl, h, by rw [ht]; exact hP, hD⟩, hS.F ht⟩) hS.2.2 dX9_undo_27
    · replace h := h.2 c2
      exact w11 v_beats v_rhythm v_past_next v_past_count h s.heap [] ls hP hD hS (lv_sub hl [] rfl)

def wp_X9_hear (v_beats : Int32) (v_ear_count : Int32) (f_ear_heard : (Nat → Int32)) (f_ear_struck : (Nat → Int32)) (p1 : Int32) (p2 : Int32) (Q : Int32 → Int32 → (Nat → Int32) → (Nat → Int32) → Prop) : Prop := wp_X9_isBeat v_beats p1 fun (r1 : Int32) => (¬ r1 = 0 → (wp_X1_add v_ear_count f_ear_heard f_ear_struck p1 p2 fun (r3 : Int32) (u4 : Int32) (u5 : (Nat → Int32)) (u6 : (Nat → Int32)) => Q r3 u4 u5 u6)) ∧ (r1 = 0 → (Q (-1000000001) v_ear_count f_ear_heard f_ear_struck))
abbrev rmX9_hear : Room := { frames := 1, cells := 0, slots := 0, locals := 22 }
set_option maxRecDepth 20000 in
theorem iX9_hear_X9 : ∀ w ∈ wsX90, w ∈ wsX9_hear := by decide +kernel
set_option maxHeartbeats 4000000 in
set_option maxRecDepth 100000 in
theorem c_X9_hear (l : Launch) (dC : Nat → ClassId) (dI : Nat → Nat → Nat) (cI cZ : ClassId) (q0 q_text q_past q_ear q_tilings q_mending q_images q_ear_heard q_ear_struck : Nat) (sz : Nat) (v_beats : Int32) (v_rhythm : Int32) (v_draws : Int32) (v_faultAt : Int32) (v_ear_count : Int32) (f_ear_heard : (Nat → Int32)) (f_ear_struck : (Nat → Int32)) (p1 : Int32) (p2 : Int32) (Q : Int32 → Int32 → (Nat → Int32) → (Nat → Int32) → Prop) (h : wp_X9_hear v_beats v_ear_count f_ear_heard f_ear_struck p1 p2 Q) : Met l yX9_hear wsX9_hear (rmX9_hear) (va_Pc [.ref q0, .int p1, .int p2] (fun U => U.heap.size = sz ∧ va_P (dC, dI) vwCl [(q0, .inr (6, [.ref q_text, .ref q_past, .ref q_ear, .ref q_tilings, .ref q_mending, .ref q_images, .int v_beats, .int v_rhythm, .int v_draws, .int v_faultAt])), (q_ear, .inr (0, [.ref q_ear_heard, .ref q_ear_struck, .int v_ear_count])), (q_ear_heard, .inl (cI, 8, .inl f_ear_heard)), (q_ear_struck, .inl (cZ, 8, .inl f_ear_struck))] U.heap ∧ va_K (dC, dI) vwCl (tyZ cI cZ) U ∧ va_D (fun _ => True) [(q0, .inr (6, [.ref q_text, .ref q_past, .ref q_ear, .ref q_tilings, .ref q_mending, .ref q_images, .int v_beats, .int v_rhythm, .int v_draws, .int v_faultAt])), (q_ear, .inr (0, [.ref q_ear_heard, .ref q_ear_struck, .int v_ear_count])), (q_ear_heard, .inl (cI, 8, .inl f_ear_heard)), (q_ear_struck, .inl (cZ, 8, .inl f_ear_struck))] ∧ nW U)) (va_Qi (fun (r : Int32) (u : Int32 × (Nat → Int32) × (Nat → Int32)) => Q r u.1 u.2.1 u.2.2) (fun (u : Int32 × (Nat → Int32) × (Nat → Int32)) (t : State) => va_P (dC, dI) vwCl [(q0, .inr (6, [.ref q_text, .ref q_past, .ref q_ear, .ref q_tilings, .ref q_mending, .ref q_images, .int v_beats, .int v_rhythm, .int v_draws, .int v_faultAt])), (q_ear, .inr (0, [.ref q_ear_heard, .ref q_ear_struck, .int u.1])), (q_ear_heard, .inl (cI, 8, .inl u.2.1)), (q_ear_struck, .inl (cZ, 8, .inl u.2.2))] t.heap ∧ va_D (va_A [(q0, .inr (6, [.ref q_text, .ref q_past, .ref q_ear, .ref q_tilings, .ref q_mending, .ref q_images, .int v_beats, .int v_rhythm, .int v_draws, .int v_faultAt])), (q_ear, .inr (0, [.ref q_ear_heard, .ref q_ear_struck, .int v_ear_count])), (q_ear_heard, .inl (cI, 8, .inl f_ear_heard)), (q_ear_struck, .inl (cZ, 8, .inl f_ear_struck))] sz) [(q0, .inr (6, [.ref q_text, .ref q_past, .ref q_ear, .ref q_tilings, .ref q_mending, .ref q_images, .int v_beats, .int v_rhythm, .int v_draws, .int v_faultAt])), (q_ear, .inr (0, [.ref q_ear_heard, .ref q_ear_struck, .int u.1])), (q_ear_heard, .inl (cI, 8, .inl u.2.1)), (q_ear_struck, .inl (cZ, 8, .inl u.2.2))]) (va_A [(q0, .inr (6, [.ref q_text, .ref q_past, .ref q_ear, .ref q_tilings, .ref q_mending, .ref q_images, .int v_beats, .int v_rhythm, .int v_draws, .int v_faultAt])), (q_ear, .inr (0, [.ref q_ear_heard, .ref q_ear_struck, .int v_ear_count])), (q_ear_heard, .inl (cI, 8, .inl f_ear_heard)), (q_ear_struck, .inl (cZ, 8, .inl f_ear_struck))] sz)) 0 0 (va_A [(q0, .inr (6, [.ref q_text, .ref q_past, .ref q_ear, .ref q_tilings, .ref q_mending, .ref q_images, .int v_beats, .int v_rhythm, .int v_draws, .int v_faultAt])), (q_ear, .inr (0, [.ref q_ear_heard, .ref q_ear_struck, .int v_ear_count])), (q_ear_heard, .inl (cI, 8, .inl f_ear_heard)), (q_ear_struck, .inl (cZ, 8, .inl f_ear_struck))] sz) := by
  unfold wp_X9_hear at h
  refine Met.ofW (cc := cX9_hear) (maxL := 3) (ret := (some .int)) (by decide) rfl ?_
  intro p e s m args below meth c s₁ B hml hv
  obtain ⟨rfl, hsz, hP, hK, hD0, hN⟩ := hv
  have hx := B.exec
  have hb := B.bytes
  have hr := B.returns
  have hts := atoms_spec (ws := wsX9_hear) B.pre
  have hown : s.vm.findClass RX9 = some m.cls := findClass_of_methodNamed B.named
  have hlocks := B.notSynchronized
  subst hsz
  have hD := hD0.self (sz := s.heap.size)
  generalize hAe : va_A [(q0, .inr (6, [.ref q_text, .ref q_past, .ref q_ear, .ref q_tilings, .ref q_mending, .ref q_images, .int v_beats, .int v_rhythm, .int v_draws, .int v_faultAt])), (q_ear, .inr (0, [.ref q_ear_heard, .ref q_ear_struck, .int v_ear_count])), (q_ear_heard, .inl (cI, 8, .inl f_ear_heard)), (q_ear_struck, .inl (cZ, 8, .inl f_ear_struck))] s.heap.size = A at hD ⊢
  have hA : ∀ q : Nat, s.heap.size ≤ q → A q := fun q h => by rw [← hAe]; exact Or.inr h
  clear hAe
  have hS : va_S A s.heap s.heap [] := va_S.rf
  have hl := lv_entry ([.ref q0, .int p1, .int p2]) (n := 3) (Nat.le_of_ble_eq_true rfl)
  rw [lg_entry_eq]
  generalize (lg_sl ([.ref q0, .int p1, .int p2]) ++ List.replicate (3 - (lg_sl ([.ref q0, .int p1, .int p2])).length) Slot.unset).toArray = ls at hl ⊢
  have hl : lv_has ls 3 [(0, .ref q0), (1, .int p1), (2, .int p2)] := hl
  refine lv_aload_n hx hb dX9_hear_0 rfl (lv_at hl 0 rfl) ?_
  refine lv_iload_n hx hb dX9_hear_1 rfl (lv_at hl 1 rfl) ?_
  have hPc := hP.sub (ws' := [(q0, .inr (6, [.ref q_text, .ref q_past, .ref q_ear, .ref q_tilings, .ref q_mending, .ref q_images, .int v_beats, .int v_rhythm, .int v_draws, .int v_faultAt]))]) [0] rfl
  refine vs_calli (va_runV (As := [.int p1]) (rest := []) ⟨hx, hb, hml, hown, hts⟩ (c_X9_isBeat l dC dI cI cZ q0 q_text q_past q_ear q_tilings q_mending q_images v_beats v_rhythm v_draws v_faultAt p1 _ h) (cwV 1 hts gX9_hear_X9_isBeat rfl rfl rfl (by decide +kernel) ⟨Nat.le_of_ble_eq_true rfl, Nat.le_of_ble_eq_true rfl⟩) ⟨fun a U g mk q => ⟨q.1, q.2.1, va_K.moved (u := U) (U := U.calling g mk a) (Vm.Alike.refl U.vm) q.2.2.1, nW_call q.2.2.2⟩, va_recv hK hPc (ci := 6) (q0 := 0) rfl rfl, fun U hU hW => ⟨rfl, by rw [hU]; exact hPc, va_K.moved hW.alike hK, nW_warm hW hN⟩⟩ rfl rfl hl.1 rfl (lv_room (Nat.le_of_ble_eq_true rfl)) dX9_hear_2 ⟨Nat.le_of_ble_eq_true rfl, Nat.le_of_ble_eq_true rfl⟩) (fun r1 h => ?_)
  refine lv_if_ne (tgt := 11) hx hb dX9_hear_5 (by decide) (fun c2 => ?_) (fun c2 => ?_)
  · replace h := h.1 c2
    refine lv_aload_n hx hb dX9_hear_11 rfl (lv_at hl 0 rfl) ?_
    refine va_get (D := (dC, dI)) (ci := 6) (v := .ref q_ear) (C := RX9) (T := TX9) (N := 10) hx hb hts iX9_hear_X9 hown hK hP 0 rfl rfl 2 (by decide) (hts (.fieldLink RX9 26 "TilingBeats" "ear" "LTilingBeats$Ear;") (by decide +kernel)) (fun _ h9 => h9) rfl dX9_hear_12 ?_
    refine lv_iload_n hx hb dX9_hear_15 rfl (lv_at hl 1 rfl) ?_
    refine lv_iload_n hx hb dX9_hear_16 rfl (lv_at hl 2 rfl) ?_
    have hPc := hP.sub (ws' := [(q_ear, .inr (0, [.ref q_ear_heard, .ref q_ear_struck, .int v_ear_count])), (q_ear_heard, .inl (cI, 8, .inl f_ear_heard)), (q_ear_struck, .inl (cZ, 8, .inl f_ear_struck))]) [1, 2, 3] rfl
    have hDc := hD.sub (ws' := [(q_ear, .inr (0, [.ref q_ear_heard, .ref q_ear_struck, .int v_ear_count])), (q_ear_heard, .inl (cI, 8, .inl f_ear_heard)), (q_ear_struck, .inl (cZ, 8, .inl f_ear_struck))]) [1, 2, 3] (by decide) rfl
    have hFc := va_free (wc := [(q_ear, .inr (0, [.ref q_ear_heard, .ref q_ear_struck, .int v_ear_count])), (q_ear_heard, .inl (cI, 8, .inl f_ear_heard)), (q_ear_struck, .inl (cZ, 8, .inl f_ear_struck))]) hD hS hA [1, 2, 3] rfl
    refine va_calli (va_runVN (As := [.int p1, .int p2]) (rest := []) ⟨hx, hb, hml, hown, hts⟩ (c_X1_add l dC dI cI cZ q_ear q_ear_heard q_ear_struck s.heap.size v_ear_count f_ear_heard f_ear_struck p1 p2 _ h) ⟨va_cnB 2 hts gX9_hear_X1_add_n208 rfl rfl rfl (nw_60 hN) (hts (.initialized RX1) (by decide +kernel)) (by decide +kernel) ⟨Nat.le_of_ble_eq_true rfl, Nat.le_of_ble_eq_true rfl⟩, hts (.instanceMethod yX1_add) (by decide +kernel), hts (.selects RX1 yX1_add yX1_add) (by decide +kernel)⟩ ⟨fun a U g mk q => ⟨q.1, q.2.1, q.2.2.1, va_K.moved (u := U) (U := U.calling g mk a) (Vm.Alike.refl U.vm) q.2.2.2.1, q.2.2.2.2.1, nW_call q.2.2.2.2.2⟩, va_recv hK hPc (ci := 0) (q0 := 0) rfl rfl, fun U hU hW => ⟨rfl, by rw [hU], by rw [hU]; exact hPc, va_K.moved hW.alike hK, hDc.weaken (fun _ _ _ _ => trivial), nW_warm hW hN⟩⟩ rfl rfl hl.1 rfl (lv_room (Nat.le_of_ble_eq_true rfl)) dX9_hear_17 ⟨Nat.le_of_ble_eq_true rfl, Nat.le_of_ble_eq_true rfl⟩) hS (fun q _ h => hFc q h) hFc (fun r3 u t H1 locs ht hvm hw hB hz1 hk1 hS => ?_)
    obtain ⟨u4, u5, u6⟩ := u
    obtain ⟨hP1, hD1⟩ := hB
    rw [ht] at hP1
    replace h := hw
    try dsimp only at h
    obtain ⟨hP, hD⟩ := va_join (wr := [(q0, .inr (6, [.ref q_text, .ref q_past, .ref q_ear, .ref q_tilings, .ref q_mending, .ref q_images, .int v_beats, .int v_rhythm, .int v_draws, .int v_faultAt]))]) (w1 := [(q_ear, .inr (0, [.ref q_ear_heard, .ref q_ear_struck, .int u4])), (q_ear_heard, .inl (cI, 8, .inl u5)), (q_ear_struck, .inl (cZ, 8, .inl u6))]) hP hD [1, 2, 3] [0] rfl rfl (by decide) (by decide) hk1 hFc hP1 hD1
    clear hP1 hD1 hFc hDc hPc hk1 hz1 hw hvm ht
    generalize H1 = H at hP hS ⊢
    have hP : va_P (dC, dI) vwCl [(q0, .inr (6, [.ref q_text, .ref q_past, .ref q_ear, .ref q_tilings, .ref q_mending, .ref q_images, .int v_beats, .int v_rhythm, .int v_draws, .int v_faultAt])), (q_ear, .inr (0, [.ref q_ear_heard, .ref q_ear_struck, .int u4])), (q_ear_heard, .inl (cI, 8, .inl u5)), (q_ear_struck, .inl (cZ, 8, .inl u6))] H := hP.sub [0, 1, 2, 3] rfl
    have hD : va_D A [(q0, .inr (6, [.ref q_text, .ref q_past, .ref q_ear, .ref q_tilings, .ref q_mending, .ref q_images, .int v_beats, .int v_rhythm, .int v_draws, .int v_faultAt])), (q_ear, .inr (0, [.ref q_ear_heard, .ref q_ear_struck, .int u4])), (q_ear_heard, .inl (cI, 8, .inl u5)), (q_ear_struck, .inl (cZ, 8, .inl u6))] := hD.sub [0, 1, 2, 3] (by decide) rfl
    exact W.iret (v := r3) hx hb hr (fun t ht hW => ⟨⟨_, (u4, u5, u6), rfl, h, by rw [ht]; exact hP, hD⟩, hS.F ht⟩) hS.2.2 dX9_hear_20
  · replace h := h.2 c2
    refine lv_ldc (v := (-1000000001)) hx hb hown (hts (.constant RX9 134 (-1000000001)) (by decide +kernel)) dX9_hear_8 ?_
    exact W.iret (v := (-1000000001)) hx hb hr (fun t ht hW => ⟨⟨_, (v_ear_count, f_ear_heard, f_ear_struck), rfl, h, by rw [ht]; exact hP, hD⟩, hS.F ht⟩) hS.2.2 dX9_hear_10

def wp_X9_moves (v_beats : Int32) (v_rhythm : Int32) (v_ear_count : Int32) (f_ear_heard : (Nat → Int32)) (f_ear_struck : (Nat → Int32)) (Q : Int32 → Prop) : Prop := wp_X1_fitting v_ear_count f_ear_heard f_ear_struck v_beats v_rhythm fun (r1 : Int32) => Q r1
abbrev rmX9_moves : Room := { frames := 5, cells := 0, slots := 0, locals := 114 }
set_option maxRecDepth 20000 in
theorem iX9_moves_X9 : ∀ w ∈ wsX90, w ∈ wsX9_moves := by decide +kernel
set_option maxHeartbeats 4000000 in
set_option maxRecDepth 100000 in
theorem c_X9_moves (l : Launch) (dC : Nat → ClassId) (dI : Nat → Nat → Nat) (cI cZ : ClassId) (q0 q_text q_past q_ear q_tilings q_mending q_images q_ear_heard q_ear_struck : Nat) (v_beats : Int32) (v_rhythm : Int32) (v_draws : Int32) (v_faultAt : Int32) (v_ear_count : Int32) (f_ear_heard : (Nat → Int32)) (f_ear_struck : (Nat → Int32))  (Q : Int32 → Prop) (h : wp_X9_moves v_beats v_rhythm v_ear_count f_ear_heard f_ear_struck Q) : Met l yX9_moves wsX9_moves (rmX9_moves) (va_Pc [.ref q0] (fun U => va_P (dC, dI) vwCl [(q0, .inr (6, [.ref q_text, .ref q_past, .ref q_ear, .ref q_tilings, .ref q_mending, .ref q_images, .int v_beats, .int v_rhythm, .int v_draws, .int v_faultAt])), (q_ear, .inr (0, [.ref q_ear_heard, .ref q_ear_struck, .int v_ear_count])), (q_ear_heard, .inl (cI, 8, .inl f_ear_heard)), (q_ear_struck, .inl (cZ, 8, .inl f_ear_struck))] U.heap ∧ va_K (dC, dI) vwCl (tyZ cI cZ) U ∧ nW U)) (vp_Si Q) 0 0 (fun _ => False) := by
  unfold wp_X9_moves at h
  refine Met.ofW (cc := cX9_moves) (maxL := 1) (ret := (some .int)) (by decide) rfl ?_
  intro p e s m args below meth c s₁ B hml hv
  obtain ⟨rfl, hP, hK, hN⟩ := hv
  have hx := B.exec
  have hb := B.bytes
  have hr := B.returns
  have hts := atoms_spec (ws := wsX9_moves) B.pre
  have hown : s.vm.findClass RX9 = some m.cls := findClass_of_methodNamed B.named
  have hlocks := B.notSynchronized
  have hl := lv_entry ([.ref q0]) (n := 1) (Nat.le_of_ble_eq_true rfl)
  rw [lg_entry_eq]
  generalize (lg_sl ([.ref q0]) ++ List.replicate (1 - (lg_sl ([.ref q0])).length) Slot.unset).toArray = ls at hl ⊢
  have hl : lv_has ls 1 [(0, .ref q0)] := hl
  refine lv_aload_n hx hb dX9_moves_0 rfl (lv_at hl 0 rfl) ?_
  refine va_get (D := (dC, dI)) (ci := 6) (v := .ref q_ear) (C := RX9) (T := TX9) (N := 10) hx hb hts iX9_moves_X9 hown hK hP 0 rfl rfl 2 (by decide) (hts (.fieldLink RX9 26 "TilingBeats" "ear" "LTilingBeats$Ear;") (by decide +kernel)) (fun _ h9 => h9) rfl dX9_moves_1 ?_
  refine lv_aload_n hx hb dX9_moves_4 rfl (lv_at hl 0 rfl) ?_
  refine va_get (D := (dC, dI)) (ci := 6) (v := .int v_beats) (C := RX9) (T := TX9) (N := 10) hx hb hts iX9_moves_X9 hown hK hP 0 rfl rfl 6 (by decide) (hts (.fieldLink RX9 53 "TilingBeats" "beats" "I") (by decide +kernel)) (fun _ h9 => h9) rfl dX9_moves_5 ?_
  refine lv_aload_n hx hb dX9_moves_8 rfl (lv_at hl 0 rfl) ?_
  refine va_get (D := (dC, dI)) (ci := 6) (v := .int v_rhythm) (C := RX9) (T := TX9) (N := 10) hx hb hts iX9_moves_X9 hown hK hP 0 rfl rfl 7 (by decide) (hts (.fieldLink RX9 57 "TilingBeats" "rhythm" "I") (by decide +kernel)) (fun _ h9 => h9) rfl dX9_moves_9 ?_
  have hPc := hP.sub (ws' := [(q_ear, .inr (0, [.ref q_ear_heard, .ref q_ear_struck, .int v_ear_count])), (q_ear_heard, .inl (cI, 8, .inl f_ear_heard)), (q_ear_struck, .inl (cZ, 8, .inl f_ear_struck))]) [1, 2, 3] rfl
  refine vs_calli (va_runVN (As := [.int v_beats, .int v_rhythm]) (rest := []) ⟨hx, hb, hml, hown, hts⟩ (c_X1_fitting l dC dI cI cZ q_ear q_ear_heard q_ear_struck v_ear_count f_ear_heard f_ear_struck v_beats v_rhythm _ h) ⟨va_cnB 2 hts gX9_moves_X1_fitting_n212 rfl rfl rfl (nw_61 hN) (hts (.initialized RX1) (by decide +kernel)) (by decide +kernel) ⟨Nat.le_of_ble_eq_true rfl, Nat.le_of_ble_eq_true rfl⟩, hts (.instanceMethod yX1_fitting) (by decide +kernel), hts (.selects RX1 yX1_fitting yX1_fitting) (by decide +kernel)⟩ ⟨fun a U g mk q => ⟨q.1, q.2.1, va_K.moved (u := U) (U := U.calling g mk a) (Vm.Alike.refl U.vm) q.2.2.1, nW_call q.2.2.2⟩, va_recv hK hPc (ci := 0) (q0 := 0) rfl rfl, fun U hU hW => ⟨rfl, by rw [hU]; exact hPc, va_K.moved hW.alike hK, nW_warm hW hN⟩⟩ rfl rfl hl.1 rfl (lv_room (Nat.le_of_ble_eq_true rfl)) dX9_moves_12 ⟨Nat.le_of_ble_eq_true rfl, Nat.le_of_ble_eq_true rfl⟩) (fun r1 h => ?_)
  exact W.iret (v := r1) hx hb hr (fun t ht hW => ⟨_, rfl, h, ht⟩) (fun _ h => by cases h) dX9_moves_15

def wp_X9_listen_j81 (v_beats : Int32) (v_rhythm : Int32) (v_ear_count : Int32) (f_ear_heard : (Nat → Int32)) (f_ear_struck : (Nat → Int32)) (L26 : Int32 → Int32 → Int32 → Int32 → Prop) (Q : Int32 → Prop) (l1 : Int32) (l2 : Int32) (l3 : Int32) (l4 : Int32) : Prop := ∀ x1 : Int32, x1 = l4 + 1 → L26 l1 l2 l3 x1
def wp_X9_listen_h26 (v_beats : Int32) (v_rhythm : Int32) (v_ear_count : Int32) (f_ear_heard : (Nat → Int32)) (f_ear_struck : (Nat → Int32)) (Q : Int32 → Prop) : Nat → Int32 → Int32 → Int32 → Int32 → Prop
  | 0, _, _, _, _ => False
  | z26 + 1, l1, l2, l3, l4 => (v_beats ≤ l4 → (Q l2)) ∧ (¬ v_beats ≤ l4 → (wp_X6_turnsThatStrike v_beats v_rhythm l4 fun (r3 : Int32) => wp_J6_bitCount_0f7a4 (l1 &&& r3) fun (r4 : Int32) => wp_J6_bitCount_0f7a4 l1 fun (r5 : Int32) => ∀ x6 : Int32, x6 = (if r4 < (r5 - r4) then (r5 - r4) else r4) → (l3 ≤ x6 → (wp_X9_listen_j81 v_beats v_rhythm v_ear_count f_ear_heard f_ear_struck (wp_X9_listen_h26 v_beats v_rhythm v_ear_count f_ear_heard f_ear_struck Q z26) Q l1 l2 l3 l4)) ∧ (¬ l3 ≤ x6 → (wp_X9_listen_j81 v_beats v_rhythm v_ear_count f_ear_heard f_ear_struck (wp_X9_listen_h26 v_beats v_rhythm v_ear_count f_ear_heard f_ear_struck Q z26) Q l1 l4 x6 l4))))
def wp_X9_listen (v_beats : Int32) (v_rhythm : Int32) (v_ear_count : Int32) (f_ear_heard : (Nat → Int32)) (f_ear_struck : (Nat → Int32)) (Q : Int32 → Prop) : Prop := wp_X1_fitting v_ear_count f_ear_heard f_ear_struck v_beats v_rhythm fun (r8 : Int32) => wp_J6_bitCount_0f7a4 r8 fun (r9 : Int32) => ∃ k10 : Nat, wp_X9_listen_h26 v_beats v_rhythm v_ear_count f_ear_heard f_ear_struck Q k10 r8 (-1) r9 0
abbrev rmX9_listen : Room := { frames := 5, cells := 0, slots := 0, locals := 114 }
set_option maxRecDepth 20000 in
theorem iX9_listen_X9 : ∀ w ∈ wsX90, w ∈ wsX9_listen := by decide +kernel
set_option maxHeartbeats 4000000 in
set_option maxRecDepth 100000 in
theorem c_X9_listen (l : Launch) (dC : Nat → ClassId) (dI : Nat → Nat → Nat) (cI cZ : ClassId) (q0 q_text q_past q_ear q_tilings q_mending q_images q_ear_heard q_ear_struck : Nat) (v_beats : Int32) (v_rhythm : Int32) (v_draws : Int32) (v_faultAt : Int32) (v_ear_count : Int32) (f_ear_heard : (Nat → Int32)) (f_ear_struck : (Nat → Int32))  (Q : Int32 → Prop) (h : wp_X9_listen v_beats v_rhythm v_ear_count f_ear_heard f_ear_struck Q) : Met l yX9_listen wsX9_listen (rmX9_listen) (va_Pc [.ref q0] (fun U => va_P (dC, dI) vwCl [(q0, .inr (6, [.ref q_text, .ref q_past, .ref q_ear, .ref q_tilings, .ref q_mending, .ref q_images, .int v_beats, .int v_rhythm, .int v_draws, .int v_faultAt])), (q_ear, .inr (0, [.ref q_ear_heard, .ref q_ear_struck, .int v_ear_count])), (q_ear_heard, .inl (cI, 8, .inl f_ear_heard)), (q_ear_struck, .inl (cZ, 8, .inl f_ear_struck))] U.heap ∧ va_K (dC, dI) vwCl (tyZ cI cZ) U ∧ nW U)) (vp_Si Q) 0 0 (fun _ => False) := by
  unfold wp_X9_listen at h
  refine Met.ofW (cc := cX9_listen) (maxL := 7) (ret := (some .int)) (by decide) rfl ?_
  intro p e s m args below meth c s₁ B hml hv
  obtain ⟨rfl, hP, hK, hN⟩ := hv
  have hx := B.exec
  have hb := B.bytes
  have hr := B.returns
  have hts := atoms_spec (ws := wsX9_listen) B.pre
  have hown : s.vm.findClass RX9 = some m.cls := findClass_of_methodNamed B.named
  have hlocks := B.notSynchronized
  have w26 : ∀ (z26 : Nat) (l1 : Int32) (l2 : Int32) (l3 : Int32) (l4 : Int32), wp_X9_listen_h26 v_beats v_rhythm v_ear_count f_ear_heard f_ear_struck Q z26 l1 l2 l3 l4 → ∀ (ls : Array Slot), lv_has ls 7 [(0, .ref q0), (1, .int l1), (2, .int l2), (3, .int l3), (4, .int l4)] → W p l e (headSpec wsX9_listen (rmX9_listen)).room s m ([.ref q0] : List Value).toArray below meth c s.heap [] 0 0 (MQ below (vp_Si Q) ([.ref q0] : List Value).toArray s 0 0 (fun _ => False)) (F0 m 26 ls []) := by
    intro z26
    induction z26 with
    | zero => intro l1 l2 l3 l4 h; unfold wp_X9_listen_h26 at h; exact h.elim
    | succ z26 k26 =>
      have w81 : ∀ (l1 : Int32) (l2 : Int32) (l3 : Int32) (l4 : Int32), wp_X9_listen_j81 v_beats v_rhythm v_ear_count f_ear_heard f_ear_struck (wp_X9_listen_h26 v_beats v_rhythm v_ear_count f_ear_heard f_ear_struck Q z26) Q l1 l2 l3 l4 → ∀ (ls : Array Slot), lv_has ls 7 [(0, .ref q0), (1, .int l1), (2, .int l2), (3, .int l3), (4, .int l4)] → W p l e (headSpec wsX9_listen (rmX9_listen)).room s m ([.ref q0] : List Value).toArray below meth c s.heap [] 0 0 (MQ below (vp_Si Q) ([.ref q0] : List Value).toArray s 0 0 (fun _ => False)) (F0 m 81 ls []) := by
        intro l1 l2 l3 l4 h ls hl
        unfold wp_X9_listen_j81 at h
        obtain ⟨x1, ex1⟩ : ∃ y : Int32, y = l4 + 1 := ⟨_, rfl⟩
        replace h := h x1 ex1
        refine lv_iinc (v := x1) (lv' := [(4, .int x1), (0, .ref q0), (1, .int l1), (2, .int l2), (3, .int l3)]) hx hb dX9_listen_81 hl (k := 4) rfl (by rw [ex1]; rfl) (by decide) rfl (fun ls hl => ?_)
        refine lv_goto (tgt := 26) hx hb dX9_listen_84 (by decide) ?_
        exact k26 l1 l2 l3 x1 h ls (lv_sub hl [1, 2, 3, 4, 0] rfl)
      intro l1 l2 l3 l4 h ls hl
      unfold wp_X9_listen_h26 at h
      refine lv_iload hx hb dX9_listen_26 (lv_at hl 4 rfl) ?_
      refine lv_aload_n hx hb dX9_listen_28 rfl (lv_at hl 0 rfl) ?_
      refine va_get (D := (dC, dI)) (ci := 6) (v := .int v_beats) (C := RX9) (T := TX9) (N := 10) hx hb hts iX9_listen_X9 hown hK hP 0 rfl rfl 6 (by decide) (hts (.fieldLink RX9 53 "TilingBeats" "beats" "I") (by decide +kernel)) (fun _ h9 => h9) rfl dX9_listen_29 ?_
      refine lv_icmp_ge (tgt := 87) hx hb dX9_listen_32 (by decide) (fun c2 => ?_) (fun c2 => ?_)
      · replace h := h.1 c2
        refine lv_iload_n hx hb dX9_listen_87 rfl (lv_at hl 2 rfl) ?_
        exact W.iret (v := l2) hx hb hr (fun t ht hW => ⟨_, rfl, h, ht⟩) (fun _ h => by cases h) dX9_listen_88
      · replace h := h.2 c2
        refine lv_iload_n hx hb dX9_listen_35 rfl (lv_at hl 1 rfl) ?_
        refine lv_aload_n hx hb dX9_listen_36 rfl (lv_at hl 0 rfl) ?_
        refine va_get (D := (dC, dI)) (ci := 6) (v := .int v_beats) (C := RX9) (T := TX9) (N := 10) hx hb hts iX9_listen_X9 hown hK hP 0 rfl rfl 6 (by decide) (hts (.fieldLink RX9 53 "TilingBeats" "beats" "I") (by decide +kernel)) (fun _ h9 => h9) rfl dX9_listen_37 ?_
        refine lv_aload_n hx hb dX9_listen_40 rfl (lv_at hl 0 rfl) ?_
        refine va_get (D := (dC, dI)) (ci := 6) (v := .int v_rhythm) (C := RX9) (T := TX9) (N := 10) hx hb hts iX9_listen_X9 hown hK hP 0 rfl rfl 7 (by decide) (hts (.fieldLink RX9 57 "TilingBeats" "rhythm" "I") (by decide +kernel)) (fun _ h9 => h9) rfl dX9_listen_41 ?_
        refine lv_iload hx hb dX9_listen_44 (lv_at hl 4 rfl) ?_
        refine vs_calli (va_runSN (As := [.int v_beats, .int v_rhythm, .int l4]) (rest := [.int l1]) ⟨hx, hb, hml, hown, hts⟩ (c_X6_turnsThatStrike l v_beats v_rhythm l4 _ h) ⟨va_cnB 3 hts gX9_listen_X6_turnsThatStrike_n142 rfl rfl rfl (nw_44 hN) (hts (.initialized RX6) (by decide +kernel)) (by decide +kernel) ⟨Nat.le_of_ble_eq_true rfl, Nat.le_of_ble_eq_true rfl⟩, hts (.static yX6_turnsThatStrike) (by decide +kernel), trivial⟩ ⟨fun a U g mk q => ⟨q.1, nW_call q.2⟩, fun U hU hW => ⟨rfl, nW_warm hW hN⟩⟩ rfl rfl hl.1 rfl (lv_room (Nat.le_of_ble_eq_true rfl)) dX9_listen_46 ⟨Nat.le_of_ble_eq_true rfl, Nat.le_of_ble_eq_true rfl⟩) (fun r3 h => ?_)
        refine lv_iand hx hb dX9_listen_49 ?_
        refine vs_calli (va_runS (As := [.int (l1 &&& r3)]) (rest := []) ⟨hx, hb, hml, hown, hts⟩ (c_J6_bitCount_0f7a4 l (l1 &&& r3) _ h) (va_cwS 1 hts gX9_listen_J6_bitCount_0f7a4 rfl rfl rfl (by decide +kernel) ⟨Nat.le_of_ble_eq_true rfl, Nat.le_of_ble_eq_true rfl⟩) ⟨fun a U g mk q => ⟨q.1, nW_call q.2⟩, fun U hU hW => ⟨rfl, nW_warm hW hN⟩⟩ rfl rfl hl.1 rfl (lv_room (Nat.le_of_ble_eq_true rfl)) dX9_listen_50 ⟨Nat.le_of_ble_eq_true rfl, Nat.le_of_ble_eq_true rfl⟩) (fun r4 h => ?_)
        refine lv_istore (lv' := [(5, .int r4), (0, .ref q0), (1, .int l1), (2, .int l2), (3, .int l3), (4, .int l4)]) hx hb dX9_listen_53 hl (by decide) rfl (fun ls hl => ?_)
        refine lv_iload hx hb dX9_listen_55 (lv_at hl 0 rfl) ?_
        refine lv_iload_n hx hb dX9_listen_57 rfl (lv_at hl 2 rfl) ?_
        refine vs_calli (va_runS (As := [.int l1]) (rest := [.int r4]) ⟨hx, hb, hml, hown, hts⟩ (c_J6_bitCount_0f7a4 l l1 _ h) (va_cwS 1 hts gX9_listen_J6_bitCount_0f7a4 rfl rfl rfl (by decide +kernel) ⟨Nat.le_of_ble_eq_true rfl, Nat.le_of_ble_eq_true rfl⟩) ⟨fun a U g mk q => ⟨q.1, nW_call q.2⟩, fun U hU hW => ⟨rfl, nW_warm hW hN⟩⟩ rfl rfl hl.1 rfl (lv_room (Nat.le_of_ble_eq_true rfl)) dX9_listen_58 ⟨Nat.le_of_ble_eq_true rfl, Nat.le_of_ble_eq_true rfl⟩) (fun r5 h => ?_)
        refine lv_iload hx hb dX9_listen_61 (lv_at hl 0 rfl) ?_
        refine lv_isub hx hb dX9_listen_63 ?_
        refine va_mmax hx hb (by rw [hml]; exact hl.1.symm) hown (hts (.methodLink RX9 215 Lib.Math.max.name) (by decide +kernel)) (hts (.static Lib.Math.max.name) (by decide +kernel)) (hts (.initialized "java/lang/Math") (by decide +kernel)) (hts (.code Lib.Math.max.name Lib.Math.max.code 2 (some .int)) (by decide +kernel)) (Nat.le_of_ble_eq_true rfl) (Nat.le_of_ble_eq_true rfl) (Nat.le_of_ble_eq_true rfl) (Nat.le_of_ble_eq_true rfl) dX9_listen_64 ?_
        refine lv_topi (fun x6 ex6 => ?_)
        replace h := h x6 ex6
        refine lv_istore (lv' := [(6, .int x6), (5, .int r4), (0, .ref q0), (1, .int l1), (2, .int l2), (3, .int l3), (4, .int l4)]) hx hb dX9_listen_67 hl (by decide) rfl (fun ls hl => ?_)
        refine lv_iload hx hb dX9_listen_69 (lv_at hl 0 rfl) ?_
        refine lv_iload_n hx hb dX9_listen_71 rfl (lv_at hl 5 rfl) ?_
        refine lv_icmp_ge (tgt := 81) hx hb dX9_listen_72 (by decide) (fun c7 => ?_) (fun c7 => ?_)
        · replace h := h.1 c7
          exact w81 l1 l2 l3 l4 h ls (lv_sub hl [2, 3, 4, 5, 6] rfl)
        · replace h := h.2 c7
          refine lv_iload hx hb dX9_listen_75 (lv_at hl 6 rfl) ?_
          refine lv_istore_n (lv' := [(2, .int l4), (6, .int x6), (5, .int r4), (0, .ref q0), (1, .int l1), (3, .int l3), (4, .int l4)]) hx hb dX9_listen_77 rfl hl (by decide) rfl (fun ls hl => ?_)
          refine lv_iload hx hb dX9_listen_78 (lv_at hl 1 rfl) ?_
          refine lv_istore_n (lv' := [(3, .int x6), (2, .int l4), (6, .int x6), (5, .int r4), (0, .ref q0), (1, .int l1), (4, .int l4)]) hx hb dX9_listen_80 rfl hl (by decide) rfl (fun ls hl => ?_)
          exact w81 l1 l4 x6 l4 h ls (lv_sub hl [4, 5, 1, 0, 6] rfl)
  have hl := lv_entry ([.ref q0]) (n := 7) (Nat.le_of_ble_eq_true rfl)
  rw [lg_entry_eq]
  generalize (lg_sl ([.ref q0]) ++ List.replicate (7 - (lg_sl ([.ref q0])).length) Slot.unset).toArray = ls at hl ⊢
  have hl : lv_has ls 7 [(0, .ref q0)] := hl
  refine lv_aload_n hx hb dX9_listen_0 rfl (lv_at hl 0 rfl) ?_
  refine va_get (D := (dC, dI)) (ci := 6) (v := .ref q_ear) (C := RX9) (T := TX9) (N := 10) hx hb hts iX9_listen_X9 hown hK hP 0 rfl rfl 2 (by decide) (hts (.fieldLink RX9 26 "TilingBeats" "ear" "LTilingBeats$Ear;") (by decide +kernel)) (fun _ h9 => h9) rfl dX9_listen_1 ?_
  refine lv_aload_n hx hb dX9_listen_4 rfl (lv_at hl 0 rfl) ?_
  refine va_get (D := (dC, dI)) (ci := 6) (v := .int v_beats) (C := RX9) (T := TX9) (N := 10) hx hb hts iX9_listen_X9 hown hK hP 0 rfl rfl 6 (by decide) (hts (.fieldLink RX9 53 "TilingBeats" "beats" "I") (by decide +kernel)) (fun _ h9 => h9) rfl dX9_listen_5 ?_
  refine lv_aload_n hx hb dX9_listen_8 rfl (lv_at hl 0 rfl) ?_
  refine va_get (D := (dC, dI)) (ci := 6) (v := .int v_rhythm) (C := RX9) (T := TX9) (N := 10) hx hb hts iX9_listen_X9 hown hK hP 0 rfl rfl 7 (by decide) (hts (.fieldLink RX9 57 "TilingBeats" "rhythm" "I") (by decide +kernel)) (fun _ h9 => h9) rfl dX9_listen_9 ?_
  have hPc := hP.sub (ws' := [(q_ear, .inr (0, [.ref q_ear_heard, .ref q_ear_struck, .int v_ear_count])), (q_ear_heard, .inl (cI, 8, .inl f_ear_heard)), (q_ear_struck, .inl (cZ, 8, .inl f_ear_struck))]) [1, 2, 3] rfl
  refine vs_calli (va_runVN (As := [.int v_beats, .int v_rhythm]) (rest := []) ⟨hx, hb, hml, hown, hts⟩ (c_X1_fitting l dC dI cI cZ q_ear q_ear_heard q_ear_struck v_ear_count f_ear_heard f_ear_struck v_beats v_rhythm _ h) ⟨va_cnB 2 hts gX9_listen_X1_fitting_n212 rfl rfl rfl (nw_61 hN) (hts (.initialized RX1) (by decide +kernel)) (by decide +kernel) ⟨Nat.le_of_ble_eq_true rfl, Nat.le_of_ble_eq_true rfl⟩, hts (.instanceMethod yX1_fitting) (by decide +kernel), hts (.selects RX1 yX1_fitting yX1_fitting) (by decide +kernel)⟩ ⟨fun a U g mk q => ⟨q.1, q.2.1, va_K.moved (u := U) (U := U.calling g mk a) (Vm.Alike.refl U.vm) q.2.2.1, nW_call q.2.2.2⟩, va_recv hK hPc (ci := 0) (q0 := 0) rfl rfl, fun U hU hW => ⟨rfl, by rw [hU]; exact hPc, va_K.moved hW.alike hK, nW_warm hW hN⟩⟩ rfl rfl hl.1 rfl (lv_room (Nat.le_of_ble_eq_true rfl)) dX9_listen_12 ⟨Nat.le_of_ble_eq_true rfl, Nat.le_of_ble_eq_true rfl⟩) (fun r8 h => ?_)
  refine lv_istore_n (lv' := [(1, .int r8), (0, .ref q0)]) hx hb dX9_listen_15 rfl hl (by decide) rfl (fun ls hl => ?_)
  refine lv_iconst (v := (-1)) hx hb dX9_listen_16 (by decide) ?_
  refine lv_istore_n (lv' := [(2, .int (-1)), (1, .int r8), (0, .ref q0)]) hx hb dX9_listen_17 rfl hl (by decide) rfl (fun ls hl => ?_)
  refine lv_iload_n hx hb dX9_listen_18 rfl (lv_at hl 1 rfl) ?_
  refine vs_calli (va_runS (As := [.int r8]) (rest := []) ⟨hx, hb, hml, hown, hts⟩ (c_J6_bitCount_0f7a4 l r8 _ h) (va_cwS 1 hts gX9_listen_J6_bitCount_0f7a4 rfl rfl rfl (by decide +kernel) ⟨Nat.le_of_ble_eq_true rfl, Nat.le_of_ble_eq_true rfl⟩) ⟨fun a U g mk q => ⟨q.1, nW_call q.2⟩, fun U hU hW => ⟨rfl, nW_warm hW hN⟩⟩ rfl rfl hl.1 rfl (lv_room (Nat.le_of_ble_eq_true rfl)) dX9_listen_19 ⟨Nat.le_of_ble_eq_true rfl, Nat.le_of_ble_eq_true rfl⟩) (fun r9 h => ?_)
  refine lv_istore_n (lv' := [(3, .int r9), (2, .int (-1)), (1, .int r8), (0, .ref q0)]) hx hb dX9_listen_22 rfl hl (by decide) rfl (fun ls hl => ?_)
  refine lv_iconst (v := 0) hx hb dX9_listen_23 (by decide) ?_
  refine lv_istore (lv' := [(4, .int 0), (3, .int r9), (2, .int (-1)), (1, .int r8), (0, .ref q0)]) hx hb dX9_listen_24 hl (by decide) rfl (fun ls hl => ?_)
  obtain ⟨k10, h⟩ := h
  exact w26 k10 r8 (-1) r9 0 h ls (lv_sub hl [4, 3, 2, 1, 0] rfl)

def wp_X9_forget (v_ear_count : Int32) (Q : Int32 → Int32 → Prop) : Prop := wp_X1_clear v_ear_count fun (u1 : Int32) => Q v_ear_count u1
abbrev rmX9_forget : Room := { frames := 1, cells := 0, slots := 0, locals := 20 }
set_option maxRecDepth 20000 in
theorem iX9_forget_X1 : ∀ w ∈ wsX10, w ∈ wsX9_forget := by decide +kernel
set_option maxRecDepth 20000 in
theorem iX9_forget_X9 : ∀ w ∈ wsX90, w ∈ wsX9_forget := by decide +kernel
set_option maxHeartbeats 4000000 in
set_option maxRecDepth 100000 in
theorem c_X9_forget (l : Launch) (dC : Nat → ClassId) (dI : Nat → Nat → Nat) (cI cZ : ClassId) (q0 q_text q_past q_ear q_tilings q_mending q_images q_ear_heard q_ear_struck : Nat) (sz : Nat) (v_beats : Int32) (v_rhythm : Int32) (v_draws : Int32) (v_faultAt : Int32) (v_ear_count : Int32)  (Q : Int32 → Int32 → Prop) (h : wp_X9_forget v_ear_count Q) : Met l yX9_forget wsX9_forget (rmX9_forget) (va_Pc [.ref q0] (fun U => U.heap.size = sz ∧ va_P (dC, dI) vwCl [(q0, .inr (6, [.ref q_text, .ref q_past, .ref q_ear, .ref q_tilings, .ref q_mending, .ref q_images, .int v_beats, .int v_rhythm, .int v_draws, .int v_faultAt])), (q_ear, .inr (0, [.ref q_ear_heard, .ref q_ear_struck, .int v_ear_count]))] U.heap ∧ va_K (dC, dI) vwCl (tyZ cI cZ) U ∧ va_D (fun _ => True) [(q0, .inr (6, [.ref q_text, .ref q_past, .ref q_ear, .ref q_tilings, .ref q_mending, .ref q_images, .int v_beats, .int v_rhythm, .int v_draws, .int v_faultAt])), (q_ear, .inr (0, [.ref q_ear_heard, .ref q_ear_struck, .int v_ear_count]))] ∧ nW U)) (va_Qi (fun (r : Int32) (u : Int32) => Q r u) (fun (u : Int32) (t : State) => va_P (dC, dI) vwCl [(q0, .inr (6, [.ref q_text, .ref q_past, .ref q_ear, .ref q_tilings, .ref q_mending, .ref q_images, .int v_beats, .int v_rhythm, .int v_draws, .int v_faultAt])), (q_ear, .inr (0, [.ref q_ear_heard, .ref q_ear_struck, .int u]))] t.heap ∧ va_D (va_A [(q0, .inr (6, [.ref q_text, .ref q_past, .ref q_ear, .ref q_tilings, .ref q_mending, .ref q_images, .int v_beats, .int v_rhythm, .int v_draws, .int v_faultAt])), (q_ear, .inr (0, [.ref q_ear_heard, .ref q_ear_struck, .int v_ear_count]))] sz) [(q0, .inr (6, [.ref q_text, .ref q_past, .ref q_ear, .ref q_tilings, .ref q_mending, .ref q_images, .int v_beats, .int v_rhythm, .int v_draws, .int v_faultAt])), (q_ear, .inr (0, [.ref q_ear_heard, .ref q_ear_struck, .int u]))]) (va_A [(q0, .inr (6, [.ref q_text, .ref q_past, .ref q_ear, .ref q_tilings, .ref q_mending, .ref q_images, .int v_beats, .int v_rhythm, .int v_draws, .int v_faultAt])), (q_ear, .inr (0, [.ref q_ear_heard, .ref q_ear_struck, .int v_ear_count]))] sz)) 0 0 (va_A [(q0, .inr (6, [.ref q_text, .ref q_past, .ref q_ear, .ref q_tilings, .ref q_mending, .ref q_images, .int v_beats, .int v_rhythm, .int v_draws, .int v_faultAt])), (q_ear, .inr (0, [.ref q_ear_heard, .ref q_ear_struck, .int v_ear_count]))] sz) := by
  unfold wp_X9_forget at h
  refine Met.ofW (cc := cX9_forget) (maxL := 2) (ret := (some .int)) (by decide) rfl ?_
  intro p e s m args below meth c s₁ B hml hv
  obtain ⟨rfl, hsz, hP, hK, hD0, hN⟩ := hv
  have hx := B.exec
  have hb := B.bytes
  have hr := B.returns
  have hts := atoms_spec (ws := wsX9_forget) B.pre
  have hown : s.vm.findClass RX9 = some m.cls := findClass_of_methodNamed B.named
  have hlocks := B.notSynchronized
  subst hsz
  have hD := hD0.self (sz := s.heap.size)
  generalize hAe : va_A [(q0, .inr (6, [.ref q_text, .ref q_past, .ref q_ear, .ref q_tilings, .ref q_mending, .ref q_images, .int v_beats, .int v_rhythm, .int v_draws, .int v_faultAt])), (q_ear, .inr (0, [.ref q_ear_heard, .ref q_ear_struck, .int v_ear_count]))] s.heap.size = A at hD ⊢
  have hA : ∀ q : Nat, s.heap.size ≤ q → A q := fun q h => by rw [← hAe]; exact Or.inr h
  clear hAe
  have hS : va_S A s.heap s.heap [] := va_S.rf
  have hl := lv_entry ([.ref q0]) (n := 2) (Nat.le_of_ble_eq_true rfl)
  rw [lg_entry_eq]
  generalize (lg_sl ([.ref q0]) ++ List.replicate (2 - (lg_sl ([.ref q0])).length) Slot.unset).toArray = ls at hl ⊢
  have hl : lv_has ls 2 [(0, .ref q0)] := hl
  refine lv_aload_n hx hb dX9_forget_0 rfl (lv_at hl 0 rfl) ?_
  refine va_get (D := (dC, dI)) (ci := 6) (v := .ref q_ear) (C := RX9) (T := TX9) (N := 10) hx hb hts iX9_forget_X9 hown hK hP 0 rfl rfl 2 (by decide) (hts (.fieldLink RX9 26 "TilingBeats" "ear" "LTilingBeats$Ear;") (by decide +kernel)) (fun _ h9 => h9) rfl dX9_forget_1 ?_
  refine va_getN (D := (dC, dI)) (ci := 0) (v := .int v_ear_count) (C := RX1) (T := TX1) (N := 3) hx hb hts iX9_forget_X1 hown hK hP 1 rfl rfl 2 (by decide) (va_Nw.use rfl (nw_5 hN)) (fun _ h9 => h9) rfl dX9_forget_4 ?_
  refine lv_istore_n (lv' := [(1, .int v_ear_count), (0, .ref q0)]) hx hb dX9_forget_7 rfl hl (by decide) rfl (fun ls hl => ?_)
  refine lv_aload_n hx hb dX9_forget_8 rfl (lv_at hl 1 rfl) ?_
  refine va_get (D := (dC, dI)) (ci := 6) (v := .ref q_ear) (C := RX9) (T := TX9) (N := 10) hx hb hts iX9_forget_X9 hown hK hP 0 rfl rfl 2 (by decide) (hts (.fieldLink RX9 26 "TilingBeats" "ear" "LTilingBeats$Ear;") (by decide +kernel)) (fun _ h9 => h9) rfl dX9_forget_9 ?_
  have hPc := hP.sub (ws' := [(q_ear, .inr (0, [.ref q_ear_heard, .ref q_ear_struck, .int v_ear_count]))]) [1] rfl
  have hDc := hD.sub (ws' := [(q_ear, .inr (0, [.ref q_ear_heard, .ref q_ear_struck, .int v_ear_count]))]) [1] (by decide) rfl
  have hFc := va_free (wc := [(q_ear, .inr (0, [.ref q_ear_heard, .ref q_ear_struck, .int v_ear_count]))]) hD hS hA [1] rfl
  refine va_callv (va_runVN (As := []) (rest := []) ⟨hx, hb, hml, hown, hts⟩ (c_X1_clear l dC dI cI cZ q_ear q_ear_heard q_ear_struck s.heap.size v_ear_count  _ h) ⟨va_cnB 0 hts gX9_forget_X1_clear_n87 rfl rfl rfl (nw_22 hN) (hts (.initialized RX1) (by decide +kernel)) (by decide +kernel) ⟨Nat.le_of_ble_eq_true rfl, Nat.le_of_ble_eq_true rfl⟩, hts (.instanceMethod yX1_clear) (by decide +kernel), hts (.selects RX1 yX1_clear yX1_clear) (by decide +kernel)⟩ ⟨fun a U g mk q => ⟨q.1, q.2.1, q.2.2.1, va_K.moved (u := U) (U := U.calling g mk a) (Vm.Alike.refl U.vm) q.2.2.2.1, q.2.2.2.2.1, nW_call q.2.2.2.2.2⟩, va_recv hK hPc (ci := 0) (q0 := 0) rfl rfl, fun U hU hW => ⟨rfl, by rw [hU], by rw [hU]; exact hPc, va_K.moved hW.alike hK, hDc.weaken (fun _ _ _ _ => trivial), nW_warm hW hN⟩⟩ rfl rfl hl.1 rfl (lv_room (Nat.le_of_ble_eq_true rfl)) dX9_forget_12 ⟨Nat.le_of_ble_eq_true rfl, Nat.le_of_ble_eq_true rfl⟩) hS (fun q _ h => hFc q h) hFc (fun u t H1 locs ht hvm hw hB hz1 hk1 hS => ?_)
  obtain ⟨u1, rfl⟩ : ∃ z, z = u := ⟨_, rfl⟩
  obtain ⟨hP1, hD1⟩ := hB
  rw [ht] at hP1
  replace h := hw
  try dsimp only at h
  obtain ⟨hP, hD⟩ := va_join (wr := [(q0, .inr (6, [.ref q_text, .ref q_past, .ref q_ear, .ref q_tilings, .ref q_mending, .ref q_images, .int v_beats, .int v_rhythm, .int v_draws, .int v_faultAt]))]) (w1 := [(q_ear, .inr (0, [.ref q_ear_heard, .ref q_ear_struck, .int u1]))]) hP hD [1] [0] rfl rfl (by decide) (by decide) hk1 hFc hP1 hD1
  clear hP1 hD1 hFc hDc hPc hk1 hz1 hw hvm ht
  generalize H1 = H at hP hS ⊢
  have hP : va_P (dC, dI) vwCl [(q0, .inr (6, [.ref q_text, .ref q_past, .ref q_ear, .ref q_tilings, .ref q_mending, .ref q_images, .int v_beats, .int v_rhythm, .int v_draws, .int v_faultAt])), (q_ear, .inr (0, [.ref q_ear_heard, .ref q_ear_struck, .int u1]))] H := hP.sub [0, 1] rfl
  have hD : va_D A [(q0, .inr (6, [.ref q_text, .ref q_past, .ref q_ear, .ref q_tilings, .ref q_mending, .ref q_images, .int v_beats, .int v_rhythm, .int v_draws, .int v_faultAt])), (q_ear, .inr (0, [.ref q_ear_heard, .ref q_ear_struck, .int u1]))] := hD.sub [0, 1] (by decide) rfl
  refine lv_iload_n hx hb dX9_forget_15 rfl (lv_at hl 0 rfl) ?_
  exact W.iret (v := v_ear_count) hx hb hr (fun t ht hW => ⟨⟨_, u1, rfl, h, by rw [ht]; exact hP, hD⟩, hS.F ht⟩) hS.2.2 dX9_forget_16

def wp_X9_seed (v_draws : Int32) (p1 : Int32) (Q : Int32 → Int32 → Prop) : Prop := (0 ≤ p1 → (Q v_draws p1)) ∧ (¬ 0 ≤ p1 → (Q (-1000000002) v_draws))
abbrev rmX9_seed : Room := { frames := 0, cells := 0, slots := 0, locals := 0 }
set_option maxRecDepth 20000 in
theorem iX9_seed_X9 : ∀ w ∈ wsX90, w ∈ wsX9_seed := by decide +kernel
set_option maxHeartbeats 4000000 in
set_option maxRecDepth 100000 in
theorem c_X9_seed (l : Launch) (dC : Nat → ClassId) (dI : Nat → Nat → Nat) (cI cZ : ClassId) (q0 q_text q_past q_ear q_tilings q_mending q_images : Nat) (sz : Nat) (v_beats : Int32) (v_rhythm : Int32) (v_draws : Int32) (v_faultAt : Int32) (p1 : Int32) (Q : Int32 → Int32 → Prop) (h : wp_X9_seed v_draws p1 Q) : Met l yX9_seed wsX9_seed (rmX9_seed) (va_Pc [.ref q0, .int p1] (fun U => U.heap.size = sz ∧ va_P (dC, dI) vwCl [(q0, .inr (6, [.ref q_text, .ref q_past, .ref q_ear, .ref q_tilings, .ref q_mending, .ref q_images, .int v_beats, .int v_rhythm, .int v_draws, .int v_faultAt]))] U.heap ∧ va_K (dC, dI) vwCl (tyZ cI cZ) U ∧ va_D (fun _ => True) [(q0, .inr (6, [.ref q_text, .ref q_past, .ref q_ear, .ref q_tilings, .ref q_mending, .ref q_images, .int v_beats, .int v_rhythm, .int v_draws, .int v_faultAt]))] ∧ nW U)) (va_Qi (fun (r : Int32) (u : Int32) => Q r u) (fun (u : Int32) (t : State) => va_P (dC, dI) vwCl [(q0, .inr (6, [.ref q_text, .ref q_past, .ref q_ear, .ref q_tilings, .ref q_mending, .ref q_images, .int v_beats, .int v_rhythm, .int u, .int v_faultAt]))] t.heap ∧ va_D (va_A [(q0, .inr (6, [.ref q_text, .ref q_past, .ref q_ear, .ref q_tilings, .ref q_mending, .ref q_images, .int v_beats, .int v_rhythm, .int v_draws, .int v_faultAt]))] sz) [(q0, .inr (6, [.ref q_text, .ref q_past, .ref q_ear, .ref q_tilings, .ref q_mending, .ref q_images, .int v_beats, .int v_rhythm, .int u, .int v_faultAt]))]) (va_A [(q0, .inr (6, [.ref q_text, .ref q_past, .ref q_ear, .ref q_tilings, .ref q_mending, .ref q_images, .int v_beats, .int v_rhythm, .int v_draws, .int v_faultAt]))] sz)) 0 0 (va_A [(q0, .inr (6, [.ref q_text, .ref q_past, .ref q_ear, .ref q_tilings, .ref q_mending, .ref q_images, .int v_beats, .int v_rhythm, .int v_draws, .int v_faultAt]))] sz) := by
  unfold wp_X9_seed at h
  refine Met.ofW (cc := cX9_seed) (maxL := 3) (ret := (some .int)) (by decide) rfl ?_
  intro p e s m args below meth c s₁ B hml hv
  obtain ⟨rfl, hsz, hP, hK, hD0, hN⟩ := hv
  have hx := B.exec
  have hb := B.bytes
  have hr := B.returns
  have hts := atoms_spec (ws := wsX9_seed) B.pre
  have hown : s.vm.findClass RX9 = some m.cls := findClass_of_methodNamed B.named
  have hlocks := B.notSynchronized
  subst hsz
  have hD := hD0.self (sz := s.heap.size)
  generalize hAe : va_A [(q0, .inr (6, [.ref q_text, .ref q_past, .ref q_ear, .ref q_tilings, .ref q_mending, .ref q_images, .int v_beats, .int v_rhythm, .int v_draws, .int v_faultAt]))] s.heap.size = A at hD ⊢
  have hA : ∀ q : Nat, s.heap.size ≤ q → A q := fun q h => by rw [← hAe]; exact Or.inr h
  clear hAe
  have hS : va_S A s.heap s.heap [] := va_S.rf
  have hl := lv_entry ([.ref q0, .int p1]) (n := 3) (Nat.le_of_ble_eq_true rfl)
  rw [lg_entry_eq]
  generalize (lg_sl ([.ref q0, .int p1]) ++ List.replicate (3 - (lg_sl ([.ref q0, .int p1])).length) Slot.unset).toArray = ls at hl ⊢
  have hl : lv_has ls 3 [(0, .ref q0), (1, .int p1)] := hl
  refine lv_iload_n hx hb dX9_seed_0 rfl (lv_at hl 1 rfl) ?_
  refine lv_if_ge (tgt := 7) hx hb dX9_seed_1 (by decide) (fun c1 => ?_) (fun c1 => ?_)
  · replace h := h.1 c1
    refine lv_aload_n hx hb dX9_seed_7 rfl (lv_at hl 0 rfl) ?_
    refine va_get (D := (dC, dI)) (ci := 6) (v := .int v_draws) (C := RX9) (T := TX9) (N := 10) hx hb hts iX9_seed_X9 hown hK hP 0 rfl rfl 8 (by decide) (hts (.fieldLink RX9 60 "TilingBeats" "draws" "I") (by decide +kernel)) (fun _ h9 => h9) rfl dX9_seed_8 ?_
    refine lv_istore_n (lv' := [(2, .int v_draws), (0, .ref q0), (1, .int p1)]) hx hb dX9_seed_11 rfl hl (by decide) rfl (fun ls hl => ?_)
    refine lv_aload_n hx hb dX9_seed_12 rfl (lv_at hl 1 rfl) ?_
    refine lv_iload_n hx hb dX9_seed_13 rfl (lv_at hl 2 rfl) ?_
    refine va_put (D := (dC, dI)) (ci := 6) (v := .int p1) (ty := .int) (C := RX9) (T := TX9) (N := 10) hx hb hts iX9_seed_X9 tyX9 tyX9_ok nmX9 hown hK hP hD hS 0 rfl rfl 8 (by decide) (hts (.fieldLink RX9 60 "TilingBeats" "draws" "I") (by decide +kernel)) (fun _ h9 => h9) rfl (by decide +kernel) rfl rfl (Nat.le_of_ble_eq_true rfl) dX9_seed_14 (fun H locs hP hD hS => ?_)
    have hP : va_P (dC, dI) vwCl [(q0, .inr (6, [.ref q_text, .ref q_past, .ref q_ear, .ref q_tilings, .ref q_mending, .ref q_images, .int v_beats, .int v_rhythm, .int p1, .int v_faultAt]))] H := hP
    have hD : va_D A [(q0, .inr (6, [.ref q_text, .ref q_past, .ref q_ear, .ref q_tilings, .ref q_mending, .ref q_images, .int v_beats, .int v_rhythm, .int p1, .int v_faultAt]))] := hD
    refine lv_iload_n hx hb dX9_seed_17 rfl (lv_at hl 0 rfl) ?_
    exact W.iret (v := v_draws) hx hb hr (fun t ht hW => ⟨⟨_, p1, rfl, h, by rw [ht]; exact hP, hD⟩, hS.F ht⟩) hS.2.2 dX9_seed_18
  · replace h := h.2 c1
    refine lv_ldc (v := (-1000000002)) hx hb hown (hts (.constant RX9 66 (-1000000002)) (by decide +kernel)) dX9_seed_4 ?_
    exact W.iret (v := (-1000000002)) hx hb hr (fun t ht hW => ⟨⟨_, v_draws, rfl, h, by rw [ht]; exact hP, hD⟩, hS.F ht⟩) hS.2.2 dX9_seed_6
