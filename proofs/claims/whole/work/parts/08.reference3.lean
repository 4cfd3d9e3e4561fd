def wp_X10_struckAt_h25 (v_beats : Int32) (v_rhythm : Int32) (L12 : Int32 → Int32 → Prop) (Q : Int32 → Prop) : Nat → Int32 → Int32 → Prop
  | 0, _, _ => False
  | z25 + 1, l2, l3 => wp_X10_has v_rhythm l2 fun (r1 : Int32) => (¬ r1 = 0 → (∀ x3 : Int32, x3 = l3 + (-1) → L12 l2 x3)) ∧ (r1 = 0 → ((¬ (v_beats : Int32) = 0) ∧ ∀ x4 : Int32, x4 = ((l2 + 1) - (l2 + 1) / v_beats * v_beats) → (wp_X10_struckAt_h25 v_beats v_rhythm L12 Q z25) x4 l3))
def wp_X10_struckAt_h12 (v_beats : Int32) (v_rhythm : Int32) (Q : Int32 → Prop) : Nat → Int32 → Int32 → Prop
  | 0, _, _ => False
  | z12 + 1, l2, l3 => (l3 ≤ 0 → (Q l2)) ∧ (¬ l3 ≤ 0 → ((¬ (v_beats : Int32) = 0) ∧ ∀ x6 : Int32, x6 = ((l2 + 1) - (l2 + 1) / v_beats * v_beats) → ∃ k7 : Nat, wp_X10_struckAt_h25 v_beats v_rhythm (wp_X10_struckAt_h12 v_beats v_rhythm Q z12) Q k7 x6 l3))
def wp_X10_struckAt (v_beats : Int32) (v_rhythm : Int32) (p1 : Int32) (Q : Int32 → Prop) : Prop := wp_X10_firstFree (v_rhythm ^^^ (-1)) fun (r8 : Int32) => ∃ k9 : Nat, wp_X10_struckAt_h12 v_beats v_rhythm Q k9 r8 p1
abbrev rmX10_struckAt : Room := { frames := 2, cells := 0, slots := 0, locals := 42 }
set_option maxRecDepth 20000 in
theorem iX10_struckAt_X10 : ∀ w ∈ wsX100, w ∈ wsX10_struckAt := by decide +kernel
set_option maxHeartbeats 4000000 in
set_option maxRecDepth 100000 in
theorem c_X10_struckAt (l : Launch) (dC : Nat → ClassId) (dI : Nat → Nat → Nat) (cI cZ : ClassId) (q0 q_pastBeats q_pastRhythm q_imageBeats q_imageRhythm q_imageSeed q_isKept q_heardBeat q_heardStruck q_text q_tilings q_shifts q_struck q_chosen : Nat) (v_beats : Int32) (v_rhythm : Int32) (v_seedNow : Int32) (v_undone : Int32) (v_heard : Int32) (v_textLong : Int32) (v_faultAt : Int32) (v_readBeats : Int32) (v_readRhythm : Int32) (v_tilingMany : Int32) (v_tiledBeats : Int32) (v_tiledRhythm : Int32) (v_leastSet : Int32) (v_necklaceBy : Int32) (p1 : Int32) (Q : Int32 → Prop) (h : wp_X10_struckAt v_beats v_rhythm p1 Q) : Met l yX10_struckAt wsX10_struckAt (rmX10_struckAt) (va_Pc [.ref q0, .int p1] (fun U => va_P (dC, dI) vwCl [(q0, .inr (7, [.int v_beats, .int v_rhythm, .int v_seedNow, .ref q_pastBeats, .ref q_pastRhythm, .int v_undone, .ref q_imageBeats, .ref q_imageRhythm, .ref q_imageSeed, .ref q_isKept, .ref q_heardBeat, .ref q_heardStruck, .int v_heard, .ref q_text, .int v_textLong, .int v_faultAt, .int v_readBeats, .int v_readRhythm, .ref q_tilings, .int v_tilingMany, .int v_tiledBeats, .int v_tiledRhythm, .ref q_shifts, .ref q_struck, .ref q_chosen, .int v_leastSet, .int v_necklaceBy]))] U.heap ∧ va_K (dC, dI) vwCl (tyZ cI cZ) U ∧ nW U)) (vp_Si Q) 0 0 (fun _ => False) := by
  unfold wp_X10_struckAt at h
  refine Met.ofW (cc := cX10_struckAt) (maxL := 4) (ret := (some .int)) (by decide) rfl ?_
  intro p e s m args below meth c s₁ B hml hv
  obtain ⟨rfl, hP, hK, hN⟩ := hv
  have hx := B.exec
  have hb := B.bytes
  have hr := B.returns
  have hts := atoms_spec (ws := wsX10_struckAt) B.pre
  have hown : s.vm.findClass RX10 = some m.cls := findClass_of_methodNamed B.named
  have hlocks := B.notSynchronized
  have w12 : ∀ (z12 : Nat) (l2 : Int32) (l3 : Int32), wp_X10_struckAt_h12 v_beats v_rhythm Q z12 l2 l3 → ∀ (ls : Array Slot), lv_has ls 4 [(0, .ref q0), (2, .int l2), (3, .int l3)] → W p l e (headSpec wsX10_struckAt (rmX10_struckAt)).room s m ([.ref q0, .int p1] : List Value).toArray below meth c s.heap [] 0 0 (MQ below (vp_Si Q) ([.ref q0, .int p1] : List Value).toArray s 0 0 (fun _ => False)) (F0 m 12 ls []) := by
    intro z12
    induction z12 with
    | zero => intro l2 l3 h; unfold wp_X10_struckAt_h12 at h; exact h.elim
    | succ z12 k12 =>
      have w25 : ∀ (z25 : Nat) (l2 : Int32) (l3 : Int32), wp_X10_struckAt_h25 v_beats v_rhythm (wp_X10_struckAt_h12 v_beats v_rhythm Q z12) Q z25 l2 l3 → ∀ (ls : Array Slot), lv_has ls 4 [(0, .ref q0), (2, .int l2), (3, .int l3)] → W p l e (headSpec wsX10_struckAt (rmX10_struckAt)).room s m ([.ref q0, .int p1] : List Value).toArray below meth c s.heap [] 0 0 (MQ below (vp_Si Q) ([.ref q0, .int p1] : List Value).toArray s 0 0 (fun _ => False)) (F0 m 25 ls []) := by
        intro z25
        induction z25 with
        | zero => intro l2 l3 h; unfold wp_X10_struckAt_h25 at h; exact h.elim
        | succ z25 k25 =>
          intro l2 l3 h ls hl
          unfold wp_X10_struckAt_h25 at h
          refine lv_aload_n hx hb dX10_struckAt_25 rfl (lv_at hl 0 rfl) ?_
          refine va_get (D := (dC, dI)) (ci := 7) (v := .int v_rhythm) (C := RX10) (T := TX10) (N := 27) hx hb hts iX10_struckAt_X10 hown hK hP 0 rfl rfl 1 (by decide) (hts (.fieldLink RX10 101 "TilingBeatsModel" "rhythm" "I") (by decide +kernel)) (fun _ h9 => h9) rfl dX10_struckAt_26 ?_
          refine lv_iload_n hx hb dX10_struckAt_29 rfl (lv_at hl 1 rfl) ?_
          refine vs_calli (va_runS (As := [.int v_rhythm, .int l2]) (rest := []) ⟨hx, hb, hml, hown, hts⟩ (c_X10_has l v_rhythm l2 _ h) (va_cwS 2 hts gX10_struckAt_X10_has rfl rfl rfl (by decide +kernel) ⟨Nat.le_of_ble_eq_true rfl, Nat.le_of_ble_eq_true rfl⟩) ⟨fun a U g mk q => ⟨q.1, nW_call q.2⟩, fun U hU hW => ⟨rfl, nW_warm hW hN⟩⟩ rfl rfl hl.1 rfl (lv_room (Nat.le_of_ble_eq_true rfl)) dX10_struckAt_30 ⟨Nat.le_of_ble_eq_true rfl, Nat.le_of_ble_eq_true rfl⟩) (fun r1 h => ?_)
          refine lv_if_ne (tgt := 48) hx hb dX10_struckAt_33 (by decide) (fun c2 => ?_) (fun c2 => ?_)
          · replace h := h.1 c2
            obtain ⟨x3, ex3⟩ : ∃ y : Int32, y = l3 + (-1) := ⟨_, rfl⟩
            replace h := h x3 ex3
            refine lv_iinc (v := x3) (lv' := [(3, .int x3), (0, .ref q0), (2, .int l2)]) hx hb dX10_struckAt_48 hl (k := 2) rfl (by rw [ex3]; rfl) (by decide) rfl (fun ls hl => ?_)
            refine lv_goto (tgt := 12) hx hb dX10_struckAt_51 (by decide) ?_
            exact k12 l2 x3 h ls (lv_sub hl [1, 2, 0] rfl)
          · replace h := h.2 c2
            refine lv_iload_n hx hb dX10_struckAt_36 rfl (lv_at hl 1 rfl) ?_
            refine lv_iconst (v := 1) hx hb dX10_struckAt_37 (by decide) ?_
            refine lv_iadd hx hb dX10_struckAt_38 ?_
            refine lv_aload_n hx hb dX10_struckAt_39 rfl (lv_at hl 0 rfl) ?_
            refine va_get (D := (dC, dI)) (ci := 7) (v := .int v_beats) (C := RX10) (T := TX10) (N := 27) hx hb hts iX10_struckAt_X10 hown hK hP 0 rfl rfl 0 (by decide) (hts (.fieldLink RX10 7 "TilingBeatsModel" "beats" "I") (by decide +kernel)) (fun _ h9 => h9) rfl dX10_struckAt_40 ?_
            refine lv_irem hx hb dX10_struckAt_43 h.1 ?_
            replace h := h.2
            refine lv_topi (fun x4 ex4 => ?_)
            replace h := h x4 ex4
            refine lv_istore_n (lv' := [(2, .int x4), (0, .ref q0), (3, .int l3)]) hx hb dX10_struckAt_44 rfl hl (by decide) rfl (fun ls hl => ?_)
            refine lv_goto (tgt := 25) hx hb dX10_struckAt_45 (by decide) ?_
            exact k25 x4 l3 h ls (lv_sub hl [1, 0, 2] rfl)
      intro l2 l3 h ls hl
      unfold wp_X10_struckAt_h12 at h
      refine lv_iload_n hx hb dX10_struckAt_12 rfl (lv_at hl 2 rfl) ?_
      refine lv_if_le (tgt := 54) hx hb dX10_struckAt_13 (by decide) (fun c5 => ?_) (fun c5 => ?_)
      · replace h := h.1 c5
        refine lv_iload_n hx hb dX10_struckAt_54 rfl (lv_at hl 1 rfl) ?_
        exact W.iret (v := l2) hx hb hr (fun t ht hW => ⟨_, rfl, h, ht⟩) (fun _ h => by cases h) dX10_struckAt_55
      · replace h := h.2 c5
        refine lv_iload_n hx hb dX10_struckAt_16 rfl (lv_at hl 1 rfl) ?_
        refine lv_iconst (v := 1) hx hb dX10_struckAt_17 (by decide) ?_
        refine lv_iadd hx hb dX10_struckAt_18 ?_
        refine lv_aload_n hx hb dX10_struckAt_19 rfl (lv_at hl 0 rfl) ?_
        refine va_get (D := (dC, dI)) (ci := 7) (v := .int v_beats) (C := RX10) (T := TX10) (N := 27) hx hb hts iX10_struckAt_X10 hown hK hP 0 rfl rfl 0 (by decide) (hts (.fieldLink RX10 7 "TilingBeatsModel" "beats" "I") (by decide +kernel)) (fun _ h9 => h9) rfl dX10_struckAt_20 ?_
        refine lv_irem hx hb dX10_struckAt_23 h.1 ?_
        replace h := h.2
        refine lv_topi (fun x6 ex6 => ?_)
        replace h := h x6 ex6
        refine lv_istore_n (lv' := [(2, .int x6), (0, .ref q0), (3, .int l3)]) hx hb dX10_struckAt_24 rfl hl (by decide) rfl (fun ls hl => ?_)
        obtain ⟨k7, h⟩ := h
        exact w25 k7 x6 l3 h ls (lv_sub hl [1, 0, 2] rfl)
  have hl := lv_entry ([.ref q0, .int p1]) (n := 4) (Nat.le_of_ble_eq_true rfl)
  rw [lg_entry_eq]
  generalize (lg_sl ([.ref q0, .int p1]) ++ List.replicate (4 - (lg_sl ([.ref q0, .int p1])).length) Slot.unset).toArray = ls at hl ⊢
  have hl : lv_has ls 4 [(0, .ref q0), (1, .int p1)] := hl
  refine lv_aload_n hx hb dX10_struckAt_0 rfl (lv_at hl 0 rfl) ?_
  refine va_get (D := (dC, dI)) (ci := 7) (v := .int v_rhythm) (C := RX10) (T := TX10) (N := 27) hx hb hts iX10_struckAt_X10 hown hK hP 0 rfl rfl 1 (by decide) (hts (.fieldLink RX10 101 "TilingBeatsModel" "rhythm" "I") (by decide +kernel)) (fun _ h9 => h9) rfl dX10_struckAt_1 ?_
  refine lv_iconst (v := (-1)) hx hb dX10_struckAt_4 (by decide) ?_
  refine lv_ixor hx hb dX10_struckAt_5 ?_
  refine vs_calli (va_runS (As := [.int (v_rhythm ^^^ (-1))]) (rest := []) ⟨hx, hb, hml, hown, hts⟩ (c_X10_firstFree l (v_rhythm ^^^ (-1)) _ h) (va_cwS 1 hts gX10_struckAt_X10_firstFree rfl rfl rfl (by decide +kernel) ⟨Nat.le_of_ble_eq_true rfl, Nat.le_of_ble_eq_true rfl⟩) ⟨fun a U g mk q => ⟨q.1, nW_call q.2⟩, fun U hU hW => ⟨rfl, nW_warm hW hN⟩⟩ rfl rfl hl.1 rfl (lv_room (Nat.le_of_ble_eq_true rfl)) dX10_struckAt_6 ⟨Nat.le_of_ble_eq_true rfl, Nat.le_of_ble_eq_true rfl⟩) (fun r8 h => ?_)
  refine lv_istore_n (lv' := [(2, .int r8), (0, .ref q0), (1, .int p1)]) hx hb dX10_struckAt_9 rfl hl (by decide) rfl (fun ls hl => ?_)
  refine lv_iload_n hx hb dX10_struckAt_10 rfl (lv_at hl 2 rfl) ?_
  refine lv_istore_n (lv' := [(3, .int p1), (2, .int r8), (0, .ref q0), (1, .int p1)]) hx hb dX10_struckAt_11 rfl hl (by decide) rfl (fun ls hl => ?_)
  obtain ⟨k9, h⟩ := h
  exact w12 k9 r8 p1 h ls (lv_sub hl [2, 1, 0] rfl)

def wp_X10_gapAt_j28 (v_beats : Int32) (v_rhythm : Int32) (Q : Int32 → Prop) (s0 : Int32) : Prop := Q s0
def wp_X10_gapAt (v_beats : Int32) (v_rhythm : Int32) (p1 : Int32) (Q : Int32 → Prop) : Prop := wp_X10_struckAt v_beats v_rhythm (p1 + 1) fun (r1 : Int32) => wp_X10_struckAt v_beats v_rhythm p1 fun (r2 : Int32) => ∀ x3 : Int32, x3 = (r1 - r2) → (x3 ≤ 0 → (wp_X10_gapAt_j28 v_beats v_rhythm Q (x3 + v_beats))) ∧ (¬ x3 ≤ 0 → (wp_X10_gapAt_j28 v_beats v_rhythm Q x3))
abbrev rmX10_gapAt : Room := { frames := 3, cells := 0, slots := 0, locals := 65 }
set_option maxRecDepth 20000 in
theorem iX10_gapAt_X10 : ∀ w ∈ wsX100, w ∈ wsX10_gapAt := by decide +kernel
set_option maxHeartbeats 4000000 in
set_option maxRecDepth 100000 in
theorem c_X10_gapAt (l : Launch) (dC : Nat → ClassId) (dI : Nat → Nat → Nat) (cI cZ : ClassId) (q0 q_pastBeats q_pastRhythm q_imageBeats q_imageRhythm q_imageSeed q_isKept q_heardBeat q_heardStruck q_text q_tilings q_shifts q_struck q_chosen : Nat) (v_beats : Int32) (v_rhythm : Int32) (v_seedNow : Int32) (v_undone : Int32) (v_heard : Int32) (v_textLong : Int32) (v_faultAt : Int32) (v_readBeats : Int32) (v_readRhythm : Int32) (v_tilingMany : Int32) (v_tiledBeats : Int32) (v_tiledRhythm : Int32) (v_leastSet : Int32) (v_necklaceBy : Int32) (p1 : Int32) (Q : Int32 → Prop) (h : wp_X10_gapAt v_beats v_rhythm p1 Q) : Met l yX10_gapAt wsX10_gapAt (rmX10_gapAt) (va_Pc [.ref q0, .int p1] (fun U => va_P (dC, dI) vwCl [(q0, .inr (7, [.int v_beats, .int v_rhythm, .int v_seedNow, .ref q_pastBeats, .ref q_pastRhythm, .int v_undone, .ref q_imageBeats, .ref q_imageRhythm, .ref q_imageSeed, .ref q_isKept, .ref q_heardBeat, .ref q_heardStruck, .int v_heard, .ref q_text, .int v_textLong, .int v_faultAt, .int v_readBeats, .int v_readRhythm, .ref q_tilings, .int v_tilingMany, .int v_tiledBeats, .int v_tiledRhythm, .ref q_shifts, .ref q_struck, .ref q_chosen, .int v_leastSet, .int v_necklaceBy]))] U.heap ∧ va_K (dC, dI) vwCl (tyZ cI cZ) U ∧ nW U)) (vp_Si Q) 0 0 (fun _ => False) := by
  unfold wp_X10_gapAt at h
  refine Met.ofW (cc := cX10_gapAt) (maxL := 3) (ret := (some .int)) (by decide) rfl ?_
  intro p e s m args below meth c s₁ B hml hv
  obtain ⟨rfl, hP, hK, hN⟩ := hv
  have hx := B.exec
  have hb := B.bytes
  have hr := B.returns
  have hts := atoms_spec (ws := wsX10_gapAt) B.pre
  have hown : s.vm.findClass RX10 = some m.cls := findClass_of_methodNamed B.named
  have hlocks := B.notSynchronized
  have w28 : ∀ (s0 : Int32), wp_X10_gapAt_j28 v_beats v_rhythm Q s0 → ∀ (ls : Array Slot), lv_has ls 3 [] → W p l e (headSpec wsX10_gapAt (rmX10_gapAt)).room s m ([.ref q0, .int p1] : List Value).toArray below meth c s.heap [] 0 0 (MQ below (vp_Si Q) ([.ref q0, .int p1] : List Value).toArray s 0 0 (fun _ => False)) (F0 m 28 ls [.int s0]) := by
    intro s0 h ls hl
    unfold wp_X10_gapAt_j28 at h
    exact W.iret (v := s0) hx hb hr (fun t ht hW => ⟨_, rfl, h, ht⟩) (fun _ h => by cases h) dX10_gapAt_28
  have hl := lv_entry ([.ref q0, .int p1]) (n := 3) (Nat.le_of_ble_eq_true rfl)
  rw [lg_entry_eq]
  generalize (lg_sl ([.ref q0, .int p1]) ++ List.replicate (3 - (lg_sl ([.ref q0, .int p1])).length) Slot.unset).toArray = ls at hl ⊢
  have hl : lv_has ls 3 [(0, .ref q0), (1, .int p1)] := hl
  refine lv_aload_n hx hb dX10_gapAt_0 rfl (lv_at hl 0 rfl) ?_
  refine lv_iload_n hx hb dX10_gapAt_1 rfl (lv_at hl 1 rfl) ?_
  refine lv_iconst (v := 1) hx hb dX10_gapAt_2 (by decide) ?_
  refine lv_iadd hx hb dX10_gapAt_3 ?_
  have hPc := hP.sub (ws' := [(q0, .inr (7, [.int v_beats, .int v_rhythm, .int v_seedNow, .ref q_pastBeats, .ref q_pastRhythm, .int v_undone, .ref q_imageBeats, .ref q_imageRhythm, .ref q_imageSeed, .ref q_isKept, .ref q_heardBeat, .ref q_heardStruck, .int v_heard, .ref q_text, .int v_textLong, .int v_faultAt, .int v_readBeats, .int v_readRhythm, .ref q_tilings, .int v_tilingMany, .int v_tiledBeats, .int v_tiledRhythm, .ref q_shifts, .ref q_struck, .ref q_chosen, .int v_leastSet, .int v_necklaceBy]))]) [0] rfl
  refine vs_calli (va_runV (As := [.int (p1 + 1)]) (rest := []) ⟨hx, hb, hml, hown, hts⟩ (c_X10_struckAt l dC dI cI cZ q0 q_pastBeats q_pastRhythm q_imageBeats q_imageRhythm q_imageSeed q_isKept q_heardBeat q_heardStruck q_text q_tilings q_shifts q_struck q_chosen v_beats v_rhythm v_seedNow v_undone v_heard v_textLong v_faultAt v_readBeats v_readRhythm v_tilingMany v_tiledBeats v_tiledRhythm v_leastSet v_necklaceBy (p1 + 1) _ h) (cwV 1 hts gX10_gapAt_X10_struckAt rfl rfl rfl (by decide +kernel) ⟨Nat.le_of_ble_eq_true rfl, Nat.le_of_ble_eq_true rfl⟩) ⟨fun a U g mk q => ⟨q.1, q.2.1, va_K.moved (u := U) (U := U.calling g mk a) (Vm.Alike.refl U.vm) q.2.2.1, nW_call q.2.2.2⟩, va_recv hK hPc (ci := 7) (q0 := 0) rfl rfl, fun U hU hW => ⟨rfl, by rw [hU]; exact hPc, va_K.moved hW.alike hK, nW_warm hW hN⟩⟩ rfl rfl hl.1 rfl (lv_room (Nat.le_of_ble_eq_true rfl)) dX10_gapAt_4 ⟨Nat.le_of_ble_eq_true rfl, Nat.le_of_ble_eq_true rfl⟩) (fun r1 h => ?_)
  refine lv_aload_n hx hb dX10_gapAt_7 rfl (lv_at hl 0 rfl) ?_
  refine lv_iload_n hx hb dX10_gapAt_8 rfl (lv_at hl 1 rfl) ?_
  have hPc := hP.sub (ws' := [(q0, .inr (7, [.int v_beats, .int v_rhythm, .int v_seedNow, .ref q_pastBeats, .ref q_pastRhythm, .int v_undone, .ref q_imageBeats, .ref q_imageRhythm, .ref q_imageSeed, .ref q_isKept, .ref q_heardBeat, .ref q_heardStruck, .int v_heard, .ref q_text, .int v_textLong, .int v_faultAt, .int v_readBeats, .int v_readRhythm, .ref q_tilings, .int v_tilingMany, .int v_tiledBeats, .int v_tiledRhythm, .ref q_shifts, .ref q_struck, .ref q_chosen, .int v_leastSet, .int v_necklaceBy]))]) [0] rfl
  refine vs_calli (va_runV (As := [.int p1]) (rest := [.int r1]) ⟨hx, hb, hml, hown, hts⟩ (c_X10_struckAt l dC dI cI cZ q0 q_pastBeats q_pastRhythm q_imageBeats q_imageRhythm q_imageSeed q_isKept q_heardBeat q_heardStruck q_text q_tilings q_shifts q_struck q_chosen v_beats v_rhythm v_seedNow v_undone v_heard v_textLong v_faultAt v_readBeats v_readRhythm v_tilingMany v_tiledBeats v_tiledRhythm v_leastSet v_necklaceBy p1 _ h) (cwV 1 hts gX10_gapAt_X10_struckAt rfl rfl rfl (by decide +kernel) ⟨Nat.le_of_ble_eq_true rfl, Nat.le_of_ble_eq_true rfl⟩) ⟨fun a U g mk q => ⟨q.1, q.2.1, va_K.moved (u := U) (U := U.calling g mk a) (Vm.Alike.refl U.vm) q.2.2.1, nW_call q.2.2.2⟩, va_recv hK hPc (ci := 7) (q0 := 0) rfl rfl, fun U hU hW => ⟨rfl, by rw [hU]; exact hPc, va_K.moved hW.alike hK, nW_warm hW hN⟩⟩ rfl rfl hl.1 rfl (lv_room (Nat.le_of_ble_eq_true rfl)) dX10_gapAt_9 ⟨Nat.le_of_ble_eq_true rfl, Nat.le_of_ble_eq_true rfl⟩) (fun r2 h => ?_)
  refine lv_isub hx hb dX10_gapAt_12 ?_
  refine lv_topi (fun x3 ex3 => ?_)
  replace h := h x3 ex3
  refine lv_istore_n (lv' := [(2, .int x3), (0, .ref q0), (1, .int p1)]) hx hb dX10_gapAt_13 rfl hl (by decide) rfl (fun ls hl => ?_)
  refine lv_iload_n hx hb dX10_gapAt_14 rfl (lv_at hl 0 rfl) ?_
  refine lv_if_le (tgt := 22) hx hb dX10_gapAt_15 (by decide) (fun c4 => ?_) (fun c4 => ?_)
  · replace h := h.1 c4
    refine lv_iload_n hx hb dX10_gapAt_22 rfl (lv_at hl 0 rfl) ?_
    refine lv_aload_n hx hb dX10_gapAt_23 rfl (lv_at hl 1 rfl) ?_
    refine va_get (D := (dC, dI)) (ci := 7) (v := .int v_beats) (C := RX10) (T := TX10) (N := 27) hx hb hts iX10_gapAt_X10 hown hK hP 0 rfl rfl 0 (by decide) (hts (.fieldLink RX10 7 "TilingBeatsModel" "beats" "I") (by decide +kernel)) (fun _ h9 => h9) rfl dX10_gapAt_24 ?_
    refine lv_iadd hx hb dX10_gapAt_27 ?_
    exact w28 (x3 + v_beats) h ls (lv_sub hl [] rfl)
  · replace h := h.2 c4
    refine lv_iload_n hx hb dX10_gapAt_18 rfl (lv_at hl 0 rfl) ?_
    refine lv_goto (tgt := 28) hx hb dX10_gapAt_19 (by decide) ?_
    exact w28 x3 h ls (lv_sub hl [] rfl)

def wp_X10_gap_j28 (v_beats : Int32) (v_rhythm : Int32) (Q : Int32 → Prop) (s0 : Int32) : Prop := Q s0
def wp_X10_gap (v_beats : Int32) (v_rhythm : Int32) (p1 : Int32) (Q : Int32 → Prop) : Prop := wp_X10_bits v_rhythm fun (r1 : Int32) => wp_X10_in (p1.toInt64) 0 (((r1 - 1) : Int32).toInt64) fun (r2 : Int32) => (r2 = 0 → (wp_X10_gap_j28 v_beats v_rhythm Q (-1))) ∧ (¬ r2 = 0 → (wp_X10_gapAt v_beats v_rhythm p1 fun (r4 : Int32) => wp_X10_gap_j28 v_beats v_rhythm Q r4))
abbrev rmX10_gap : Room := { frames := 4, cells := 0, slots := 0, locals := 87 }
set_option maxRecDepth 20000 in
theorem iX10_gap_X10 : ∀ w ∈ wsX100, w ∈ wsX10_gap := by decide +kernel
set_option maxHeartbeats 4000000 in
set_option maxRecDepth 100000 in
theorem c_X10_gap (l : Launch) (dC : Nat → ClassId) (dI : Nat → Nat → Nat) (cI cZ : ClassId) (q0 q_pastBeats q_pastRhythm q_imageBeats q_imageRhythm q_imageSeed q_isKept q_heardBeat q_heardStruck q_text q_tilings q_shifts q_struck q_chosen : Nat) (v_beats : Int32) (v_rhythm : Int32) (v_seedNow : Int32) (v_undone : Int32) (v_heard : Int32) (v_textLong : Int32) (v_faultAt : Int32) (v_readBeats : Int32) (v_readRhythm : Int32) (v_tilingMany : Int32) (v_tiledBeats : Int32) (v_tiledRhythm : Int32) (v_leastSet : Int32) (v_necklaceBy : Int32) (p1 : Int32) (Q : Int32 → Prop) (h : wp_X10_gap v_beats v_rhythm p1 Q) : Met l yX10_gap wsX10_gap (rmX10_gap) (va_Pc [.ref q0, .int p1] (fun U => va_P (dC, dI) vwCl [(q0, .inr (7, [.int v_beats, .int v_rhythm, .int v_seedNow, .ref q_pastBeats, .ref q_pastRhythm, .int v_undone, .ref q_imageBeats, .ref q_imageRhythm, .ref q_imageSeed, .ref q_isKept, .ref q_heardBeat, .ref q_heardStruck, .int v_heard, .ref q_text, .int v_textLong, .int v_faultAt, .int v_readBeats, .int v_readRhythm, .ref q_tilings, .int v_tilingMany, .int v_tiledBeats, .int v_tiledRhythm, .ref q_shifts, .ref q_struck, .ref q_chosen, .int v_leastSet, .int v_necklaceBy]))] U.heap ∧ va_K (dC, dI) vwCl (tyZ cI cZ) U ∧ nW U)) (vp_Si Q) 0 0 (fun _ => False) := by
  unfold wp_X10_gap at h
  refine Met.ofW (cc := cX10_gap) (maxL := 2) (ret := (some .int)) (by decide) rfl ?_
  intro p e s m args below meth c s₁ B hml hv
  obtain ⟨rfl, hP, hK, hN⟩ := hv
  have hx := B.exec
  have hb := B.bytes
  have hr := B.returns
  have hts := atoms_spec (ws := wsX10_gap) B.pre
  have hown : s.vm.findClass RX10 = some m.cls := findClass_of_methodNamed B.named
  have hlocks := B.notSynchronized
  have w28 : ∀ (s0 : Int32), wp_X10_gap_j28 v_beats v_rhythm Q s0 → ∀ (ls : Array Slot), lv_has ls 2 [] → W p l e (headSpec wsX10_gap (rmX10_gap)).room s m ([.ref q0, .int p1] : List Value).toArray below meth c s.heap [] 0 0 (MQ below (vp_Si Q) ([.ref q0, .int p1] : List Value).toArray s 0 0 (fun _ => False)) (F0 m 28 ls [.int s0]) := by
    intro s0 h ls hl
    unfold wp_X10_gap_j28 at h
    exact W.iret (v := s0) hx hb hr (fun t ht hW => ⟨_, rfl, h, ht⟩) (fun _ h => by cases h) dX10_gap_28
  have hl := lv_entry ([.ref q0, .int p1]) (n := 2) (Nat.le_of_ble_eq_true rfl)
  rw [lg_entry_eq]
  generalize (lg_sl ([.ref q0, .int p1]) ++ List.replicate (2 - (lg_sl ([.ref q0, .int p1])).length) Slot.unset).toArray = ls at hl ⊢
  have hl : lv_has ls 2 [(0, .ref q0), (1, .int p1)] := hl
  refine lv_iload_n hx hb dX10_gap_0 rfl (lv_at hl 1 rfl) ?_
  refine lv_i2l (v := (p1.toInt64)) hx hb dX10_gap_1 rfl ?_
  refine lv_lconst (v := 0) hx hb dX10_gap_2 (by decide) ?_
  refine lv_aload_n hx hb dX10_gap_3 rfl (lv_at hl 0 rfl) ?_
  refine va_get (D := (dC, dI)) (ci := 7) (v := .int v_rhythm) (C := RX10) (T := TX10) (N := 27) hx hb hts iX10_gap_X10 hown hK hP 0 rfl rfl 1 (by decide) (hts (.fieldLink RX10 101 "TilingBeatsModel" "rhythm" "I") (by decide +kernel)) (fun _ h9 => h9) rfl dX10_gap_4 ?_
  refine vs_calli (va_runS (As := [.int v_rhythm]) (rest := [.long 0, .long (p1.toInt64)]) ⟨hx, hb, hml, hown, hts⟩ (c_X10_bits l v_rhythm _ h) (va_cwS 1 hts gX10_gap_X10_bits rfl rfl rfl (by decide +kernel) ⟨Nat.le_of_ble_eq_true rfl, Nat.le_of_ble_eq_true rfl⟩) ⟨fun a U g mk q => ⟨q.1, nW_call q.2⟩, fun U hU hW => ⟨rfl, nW_warm hW hN⟩⟩ rfl rfl hl.1 rfl (lv_room (Nat.le_of_ble_eq_true rfl)) dX10_gap_7 ⟨Nat.le_of_ble_eq_true rfl, Nat.le_of_ble_eq_true rfl⟩) (fun r1 h => ?_)
  refine lv_iconst (v := 1) hx hb dX10_gap_10 (by decide) ?_
  refine lv_isub hx hb dX10_gap_11 ?_
  refine lv_i2l (v := (((r1 - 1) : Int32).toInt64)) hx hb dX10_gap_12 rfl ?_
  refine vs_calli (va_runS (As := [.long (p1.toInt64), .long 0, .long (((r1 - 1) : Int32).toInt64)]) (rest := []) ⟨hx, hb, hml, hown, hts⟩ (c_X10_in l (p1.toInt64) 0 (((r1 - 1) : Int32).toInt64) _ h) (va_cwS 3 hts gX10_gap_X10_in rfl rfl rfl (by decide +kernel) ⟨Nat.le_of_ble_eq_true rfl, Nat.le_of_ble_eq_true rfl⟩) ⟨fun a U g mk q => ⟨q.1, nW_call q.2⟩, fun U hU hW => ⟨rfl, nW_warm hW hN⟩⟩ rfl rfl hl.1 rfl (lv_room (Nat.le_of_ble_eq_true rfl)) dX10_gap_13 ⟨Nat.le_of_ble_eq_true rfl, Nat.le_of_ble_eq_true rfl⟩) (fun r2 h => ?_)
  refine lv_if_eq (tgt := 27) hx hb dX10_gap_16 (by decide) (fun c3 => ?_) (fun c3 => ?_)
  · replace h := h.1 c3
    refine lv_iconst (v := (-1)) hx hb dX10_gap_27 (by decide) ?_
    exact w28 (-1) h ls (lv_sub hl [] rfl)
  · replace h := h.2 c3
    refine lv_aload_n hx hb dX10_gap_19 rfl (lv_at hl 0 rfl) ?_
    refine lv_iload_n hx hb dX10_gap_20 rfl (lv_at hl 1 rfl) ?_
    have hPc := hP.sub (ws' := [(q0, .inr (7, [.int v_beats, .int v_rhythm, .int v_seedNow, .ref q_pastBeats, .ref q_pastRhythm, .int v_undone, .ref q_imageBeats, .ref q_imageRhythm, .ref q_imageSeed, .ref q_isKept, .ref q_heardBeat, .ref q_heardStruck, .int v_heard, .ref q_text, .int v_textLong, .int v_faultAt, .int v_readBeats, .int v_readRhythm, .ref q_tilings, .int v_tilingMany, .int v_tiledBeats, .int v_tiledRhythm, .ref q_shifts, .ref q_struck, .ref q_chosen, .int v_leastSet, .int v_necklaceBy]))]) [0] rfl
    refine vs_calli (va_runV (As := [.int p1]) (rest := []) ⟨hx, hb, hml, hown, hts⟩ (c_X10_gapAt l dC dI cI cZ q0 q_pastBeats q_pastRhythm q_imageBeats q_imageRhythm q_imageSeed q_isKept q_heardBeat q_heardStruck q_text q_tilings q_shifts q_struck q_chosen v_beats v_rhythm v_seedNow v_undone v_heard v_textLong v_faultAt v_readBeats v_readRhythm v_tilingMany v_tiledBeats v_tiledRhythm v_leastSet v_necklaceBy p1 _ h) (cwV 1 hts gX10_gap_X10_gapAt rfl rfl rfl (by decide +kernel) ⟨Nat.le_of_ble_eq_true rfl, Nat.le_of_ble_eq_true rfl⟩) ⟨fun a U g mk q => ⟨q.1, q.2.1, va_K.moved (u := U) (U := U.calling g mk a) (Vm.Alike.refl U.vm) q.2.2.1, nW_call q.2.2.2⟩, va_recv hK hPc (ci := 7) (q0 := 0) rfl rfl, fun U hU hW => ⟨rfl, by rw [hU]; exact hPc, va_K.moved hW.alike hK, nW_warm hW hN⟩⟩ rfl rfl hl.1 rfl (lv_room (Nat.le_of_ble_eq_true rfl)) dX10_gap_21 ⟨Nat.le_of_ble_eq_true rfl, Nat.le_of_ble_eq_true rfl⟩) (fun r4 h => ?_)
    refine lv_goto (tgt := 28) hx hb dX10_gap_24 (by decide) ?_
    exact w28 r4 h ls (lv_sub hl [] rfl)

def wp_X10_widest_j64 (v_beats : Int32) (v_rhythm : Int32) (L4 : Int32 → Int32 → Int32 → Prop) (Q : Int32 → Prop) (l1 : Int32) (l3 : Int32) (s0 : Int32) : Prop := ∀ x1 : Int32, x1 = l3 + 1 → L4 l1 s0 x1
def wp_X10_widest_j51 (v_beats : Int32) (v_rhythm : Int32) (L4 : Int32 → Int32 → Int32 → Prop) (Q : Int32 → Prop) (l1 : Int32) (l2 : Int32) (l3 : Int32) (l4 : Int32) (s0 : Int32) : Prop := (s0 = 0 → (wp_X10_widest_j64 v_beats v_rhythm L4 Q l1 l3 l2)) ∧ (¬ s0 = 0 → (wp_X10_widest_j64 v_beats v_rhythm L4 Q l1 l3 l4))
def wp_X10_widest_j46 (v_beats : Int32) (v_rhythm : Int32) (L4 : Int32 → Int32 → Int32 → Prop) (Q : Int32 → Prop) (l1 : Int32) (l2 : Int32) (l3 : Int32) (l4 : Int32) : Prop := wp_X10_widest_j51 v_beats v_rhythm L4 Q l1 l2 l3 l4 1
def wp_X10_widest_j50 (v_beats : Int32) (v_rhythm : Int32) (L4 : Int32 → Int32 → Int32 → Prop) (Q : Int32 → Prop) (l1 : Int32) (l2 : Int32) (l3 : Int32) (l4 : Int32) : Prop := wp_X10_widest_j51 v_beats v_rhythm L4 Q l1 l2 l3 l4 0
def wp_X10_widest_h4 (v_beats : Int32) (v_rhythm : Int32) (Q : Int32 → Prop) : Nat → Int32 → Int32 → Int32 → Prop
  | 0, _, _, _ => False
  | z4 + 1, l1, l2, l3 => wp_X10_bits v_rhythm fun (r3 : Int32) => (r3 ≤ l3 → (Q l2)) ∧ (¬ r3 ≤ l3 → (wp_X10_gapAt v_beats v_rhythm l3 fun (r5 : Int32) => (l2 = (-1) → (wp_X10_widest_j46 v_beats v_rhythm (wp_X10_widest_h4 v_beats v_rhythm Q z4) Q l1 l2 l3 r5)) ∧ (¬ l2 = (-1) → ((l1 = 0 → ((r5 ≤ l2 → (wp_X10_widest_j50 v_beats v_rhythm (wp_X10_widest_h4 v_beats v_rhythm Q z4) Q l1 l2 l3 r5)) ∧ (¬ r5 ≤ l2 → (wp_X10_widest_j46 v_beats v_rhythm (wp_X10_widest_h4 v_beats v_rhythm Q z4) Q l1 l2 l3 r5)))) ∧ (¬ l1 = 0 → ((l2 ≤ r5 → (wp_X10_widest_j50 v_beats v_rhythm (wp_X10_widest_h4 v_beats v_rhythm Q z4) Q l1 l2 l3 r5)) ∧ (¬ l2 ≤ r5 → (wp_X10_widest_j46 v_beats v_rhythm (wp_X10_widest_h4 v_beats v_rhythm Q z4) Q l1 l2 l3 r5))))))))
def wp_X10_widest (v_beats : Int32) (v_rhythm : Int32) (p1 : Int32) (Q : Int32 → Prop) : Prop := ∃ k10 : Nat, wp_X10_widest_h4 v_beats v_rhythm Q k10 p1 (-1) 0
abbrev rmX10_widest : Room := { frames := 4, cells := 0, slots := 0, locals := 87 }
set_option maxRecDepth 20000 in
theorem iX10_widest_X10 : ∀ w ∈ wsX100, w ∈ wsX10_widest := by decide +kernel
set_option maxHeartbeats 4000000 in
set_option maxRecDepth 100000 in
theorem c_X10_widest (l : Launch) (dC : Nat → ClassId) (dI : Nat → Nat → Nat) (cI cZ : ClassId) (q0 q_pastBeats q_pastRhythm q_imageBeats q_imageRhythm q_imageSeed q_isKept q_heardBeat q_heardStruck q_text q_tilings q_shifts q_struck q_chosen : Nat) (v_beats : Int32) (v_rhythm : Int32) (v_seedNow : Int32) (v_undone : Int32) (v_heard : Int32) (v_textLong : Int32) (v_faultAt : Int32) (v_readBeats : Int32) (v_readRhythm : Int32) (v_tilingMany : Int32) (v_tiledBeats : Int32) (v_tiledRhythm : Int32) (v_leastSet : Int32) (v_necklaceBy : Int32) (p1 : Int32) (Q : Int32 → Prop) (h : wp_X10_widest v_beats v_rhythm p1 Q) : Met l yX10_widest wsX10_widest (rmX10_widest) (va_Pc [.ref q0, .int p1] (fun U => va_P (dC, dI) vwCl [(q0, .inr (7, [.int v_beats, .int v_rhythm, .int v_seedNow, .ref q_pastBeats, .ref q_pastRhythm, .int v_undone, .ref q_imageBeats, .ref q_imageRhythm, .ref q_imageSeed, .ref q_isKept, .ref q_heardBeat, .ref q_heardStruck, .int v_heard, .ref q_text, .int v_textLong, .int v_faultAt, .int v_readBeats, .int v_readRhythm, .ref q_tilings, .int v_tilingMany, .int v_tiledBeats, .int v_tiledRhythm, .ref q_shifts, .ref q_struck, .ref q_chosen, .int v_leastSet, .int v_necklaceBy]))] U.heap ∧ va_K (dC, dI) vwCl (tyZ cI cZ) U ∧ nW U)) (vp_Si Q) 0 0 (fun _ => False) := by
  unfold wp_X10_widest at h
  refine Met.ofW (cc := cX10_widest) (maxL := 6) (ret := (some .int)) (by decide) rfl ?_
  intro p e s m args below meth c s₁ B hml hv
  obtain ⟨rfl, hP, hK, hN⟩ := hv
  have hx := B.exec
  have hb := B.bytes
  have hr := B.returns
  have hts := atoms_spec (ws := wsX10_widest) B.pre
  have hown : s.vm.findClass RX10 = some m.cls := findClass_of_methodNamed B.named
  have hlocks := B.notSynchronized
  have w4 : ∀ (z4 : Nat) (l1 : Int32) (l2 : Int32) (l3 : Int32), wp_X10_widest_h4 v_beats v_rhythm Q z4 l1 l2 l3 → ∀ (ls : Array Slot), lv_has ls 6 [(0, .ref q0), (1, .int l1), (2, .int l2), (3, .int l3)] → W p l e (headSpec wsX10_widest (rmX10_widest)).room s m ([.ref q0, .int p1] : List Value).toArray below meth c s.heap [] 0 0 (MQ below (vp_Si Q) ([.ref q0, .int p1] : List Value).toArray s 0 0 (fun _ => False)) (F0 m 4 ls []) := by
    intro z4
    induction z4 with
    | zero => intro l1 l2 l3 h; unfold wp_X10_widest_h4 at h; exact h.elim
    | succ z4 k4 =>
      have w64 : ∀ (l1 : Int32) (l3 : Int32) (s0 : Int32), wp_X10_widest_j64 v_beats v_rhythm (wp_X10_widest_h4 v_beats v_rhythm Q z4) Q l1 l3 s0 → ∀ (ls : Array Slot), lv_has ls 6 [(0, .ref q0), (1, .int l1), (3, .int l3)] → W p l e (headSpec wsX10_widest (rmX10_widest)).room s m ([.ref q0, .int p1] : List Value).toArray below meth c s.heap [] 0 0 (MQ below (vp_Si Q) ([.ref q0, .int p1] : List Value).toArray s 0 0 (fun _ => False)) (F0 m 64 ls [.int s0]) := by
        intro l1 l3 s0 h ls hl
        unfold wp_X10_widest_j64 at h
        refine lv_istore_n (lv' := [(2, .int s0), (0, .ref q0), (1, .int l1), (3, .int l3)]) hx hb dX10_widest_64 rfl hl (by decide) rfl (fun ls hl => ?_)
        obtain ⟨x1, ex1⟩ : ∃ y : Int32, y = l3 + 1 := ⟨_, rfl⟩
        replace h := h x1 ex1
        refine lv_iinc (v := x1) (lv' := [(3, .int x1), (2, .int s0), (0, .ref q0), (1, .int l1)]) hx hb dX10_widest_65 hl (k := 3) rfl (by rw [ex1]; rfl) (by decide) rfl (fun ls hl => ?_)
        refine lv_goto (tgt := 4) hx hb dX10_widest_68 (by decide) ?_
        exact k4 l1 s0 x1 h ls (lv_sub hl [2, 3, 1, 0] rfl)
      have w51 : ∀ (l1 : Int32) (l2 : Int32) (l3 : Int32) (l4 : Int32) (s0 : Int32), wp_X10_widest_j51 v_beats v_rhythm (wp_X10_widest_h4 v_beats v_rhythm Q z4) Q l1 l2 l3 l4 s0 → ∀ (ls : Array Slot), lv_has ls 6 [(0, .ref q0), (1, .int l1), (2, .int l2), (3, .int l3), (4, .int l4)] → W p l e (headSpec wsX10_widest (rmX10_widest)).room s m ([.ref q0, .int p1] : List Value).toArray below meth c s.heap [] 0 0 (MQ below (vp_Si Q) ([.ref q0, .int p1] : List Value).toArray s 0 0 (fun _ => False)) (F0 m 51 ls [.int s0]) := by
        intro l1 l2 l3 l4 s0 h ls hl
        unfold wp_X10_widest_j51 at h
        refine lv_istore (lv' := [(5, .int s0), (0, .ref q0), (1, .int l1), (2, .int l2), (3, .int l3), (4, .int l4)]) hx hb dX10_widest_51 hl (by decide) rfl (fun ls hl => ?_)
        refine lv_iload hx hb dX10_widest_53 (lv_at hl 0 rfl) ?_
        refine lv_if_eq (tgt := 63) hx hb dX10_widest_55 (by decide) (fun c2 => ?_) (fun c2 => ?_)
        · replace h := h.1 c2
          refine lv_iload_n hx hb dX10_widest_63 rfl (lv_at hl 3 rfl) ?_
          exact w64 l1 l3 l2 h ls (lv_sub hl [1, 2, 4] rfl)
        · replace h := h.2 c2
          refine lv_iload hx hb dX10_widest_58 (lv_at hl 5 rfl) ?_
          refine lv_goto (tgt := 64) hx hb dX10_widest_60 (by decide) ?_
          exact w64 l1 l3 l4 h ls (lv_sub hl [1, 2, 4] rfl)
      have w46 : ∀ (l1 : Int32) (l2 : Int32) (l3 : Int32) (l4 : Int32), wp_X10_widest_j46 v_beats v_rhythm (wp_X10_widest_h4 v_beats v_rhythm Q z4) Q l1 l2 l3 l4 → ∀ (ls : Array Slot), lv_has ls 6 [(0, .ref q0), (1, .int l1), (2, .int l2), (3, .int l3), (4, .int l4)] → W p l e (headSpec wsX10_widest (rmX10_widest)).room s m ([.ref q0, .int p1] : List Value).toArray below meth c s.heap [] 0 0 (MQ below (vp_Si Q) ([.ref q0, .int p1] : List Value).toArray s 0 0 (fun _ => False)) (F0 m 46 ls []) := by
        intro l1 l2 l3 l4 h ls hl
        unfold wp_X10_widest_j46 at h
        refine lv_iconst (v := 1) hx hb dX10_widest_46 (by decide) ?_
        refine lv_goto (tgt := 51) hx hb dX10_widest_47 (by decide) ?_
        exact w51 l1 l2 l3 l4 1 h ls (lv_sub hl [0, 1, 2, 3, 4] rfl)
      have w50 : ∀ (l1 : Int32) (l2 : Int32) (l3 : Int32) (l4 : Int32), wp_X10_widest_j50 v_beats v_rhythm (wp_X10_widest_h4 v_beats v_rhythm Q z4) Q l1 l2 l3 l4 → ∀ (ls : Array Slot), lv_has ls 6 [(0, .ref q0), (1, .int l1), (2, .int l2), (3, .int l3), (4, .int l4)] → W p l e (headSpec wsX10_widest (rmX10_widest)).room s m ([.ref q0, .int p1] : List Value).toArray below meth c s.heap [] 0 0 (MQ below (vp_Si Q) ([.ref q0, .int p1] : List Value).toArray s 0 0 (fun _ => False)) (F0 m 50 ls []) := by
        intro l1 l2 l3 l4 h ls hl
        unfold wp_X10_widest_j50 at h
        refine lv_iconst (v := 0) hx hb dX10_widest_50 (by decide) ?_
        exact w51 l1 l2 l3 l4 0 h ls (lv_sub hl [0, 1, 2, 3, 4] rfl)
      intro l1 l2 l3 h ls hl
      unfold wp_X10_widest_h4 at h
      refine lv_iload_n hx hb dX10_widest_4 rfl (lv_at hl 3 rfl) ?_
      refine lv_aload_n hx hb dX10_widest_5 rfl (lv_at hl 0 rfl) ?_
      refine va_get (D := (dC, dI)) (ci := 7) (v := .int v_rhythm) (C := RX10) (T := TX10) (N := 27) hx hb hts iX10_widest_X10 hown hK hP 0 rfl rfl 1 (by decide) (hts (.fieldLink RX10 101 "TilingBeatsModel" "rhythm" "I") (by decide +kernel)) (fun _ h9 => h9) rfl dX10_widest_6 ?_
      refine vs_calli (va_runS (As := [.int v_rhythm]) (rest := [.int l3]) ⟨hx, hb, hml, hown, hts⟩ (c_X10_bits l v_rhythm _ h) (va_cwS 1 hts gX10_widest_X10_bits rfl rfl rfl (by decide +kernel) ⟨Nat.le_of_ble_eq_true rfl, Nat.le_of_ble_eq_true rfl⟩) ⟨fun a U g mk q => ⟨q.1, nW_call q.2⟩, fun U hU hW => ⟨rfl, nW_warm hW hN⟩⟩ rfl rfl hl.1 rfl (lv_room (Nat.le_of_ble_eq_true rfl)) dX10_widest_9 ⟨Nat.le_of_ble_eq_true rfl, Nat.le_of_ble_eq_true rfl⟩) (fun r3 h => ?_)
      refine lv_icmp_ge (tgt := 71) hx hb dX10_widest_12 (by decide) (fun c4 => ?_) (fun c4 => ?_)
      · replace h := h.1 c4
        refine lv_iload_n hx hb dX10_widest_71 rfl (lv_at hl 2 rfl) ?_
        exact W.iret (v := l2) hx hb hr (fun t ht hW => ⟨_, rfl, h, ht⟩) (fun _ h => by cases h) dX10_widest_72
      · replace h := h.2 c4
        refine lv_aload_n hx hb dX10_widest_15 rfl (lv_at hl 0 rfl) ?_
        refine lv_iload_n hx hb dX10_widest_16 rfl (lv_at hl 3 rfl) ?_
        have hPc := hP.sub (ws' := [(q0, .inr (7, [.int v_beats, .int v_rhythm, .int v_seedNow, .ref q_pastBeats, .ref q_pastRhythm, .int v_undone, .ref q_imageBeats, .ref q_imageRhythm, .ref q_imageSeed, .ref q_isKept, .ref q_heardBeat, .ref q_heardStruck, .int v_heard, .ref q_text, .int v_textLong, .int v_faultAt, .int v_readBeats, .int v_readRhythm, .ref q_tilings, .int v_tilingMany, .int v_tiledBeats, .int v_tiledRhythm, .ref q_shifts, .ref q_struck, .ref q_chosen, .int v_leastSet, .int v_necklaceBy]))]) [0] rfl
        refine vs_calli (va_runV (As := [.int l3]) (rest := []) ⟨hx, hb, hml, hown, hts⟩ (c_X10_gapAt l dC dI cI cZ q0 q_pastBeats q_pastRhythm q_imageBeats q_imageRhythm q_imageSeed q_isKept q_heardBeat q_heardStruck q_text q_tilings q_shifts q_struck q_chosen v_beats v_rhythm v_seedNow v_undone v_heard v_textLong v_faultAt v_readBeats v_readRhythm v_tilingMany v_tiledBeats v_tiledRhythm v_leastSet v_necklaceBy l3 _ h) (cwV 1 hts gX10_widest_X10_gapAt rfl rfl rfl (by decide +kernel) ⟨Nat.le_of_ble_eq_true rfl, Nat.le_of_ble_eq_true rfl⟩) ⟨fun a U g mk q => ⟨q.1, q.2.1, va_K.moved (u := U) (U := U.calling g mk a) (Vm.Alike.refl U.vm) q.2.2.1, nW_call q.2.2.2⟩, va_recv hK hPc (ci := 7) (q0 := 0) rfl rfl, fun U hU hW => ⟨rfl, by rw [hU]; exact hPc, va_K.moved hW.alike hK, nW_warm hW hN⟩⟩ rfl rfl hl.1 rfl (lv_room (Nat.le_of_ble_eq_true rfl)) dX10_widest_17 ⟨Nat.le_of_ble_eq_true rfl, Nat.le_of_ble_eq_true rfl⟩) (fun r5 h => ?_)
        refine lv_istore (lv' := [(4, .int r5), (0, .ref q0), (1, .int l1), (2, .int l2), (3, .int l3)]) hx hb dX10_widest_20 hl (by decide) rfl (fun ls hl => ?_)
        refine lv_iload_n hx hb dX10_widest_22 rfl (lv_at hl 3 rfl) ?_
        refine lv_iconst (v := (-1)) hx hb dX10_widest_23 (by decide) ?_
        refine lv_icmp_eq (tgt := 46) hx hb dX10_widest_24 (by decide) (fun c6 => ?_) (fun c6 => ?_)
        · replace h := h.1 c6
          exact w46 l1 l2 l3 r5 h ls (lv_sub hl [1, 2, 3, 4, 0] rfl)
        · replace h := h.2 c6
          refine lv_iload_n hx hb dX10_widest_27 rfl (lv_at hl 2 rfl) ?_
          refine lv_if_eq (tgt := 40) hx hb dX10_widest_28 (by decide) (fun c7 => ?_) (fun c7 => ?_)
          · replace h := h.1 c7
            refine lv_iload hx hb dX10_widest_40 (lv_at hl 0 rfl) ?_
            refine lv_iload_n hx hb dX10_widest_42 rfl (lv_at hl 3 rfl) ?_
            refine lv_icmp_le (tgt := 50) hx hb dX10_widest_43 (by decide) (fun c8 => ?_) (fun c8 => ?_)
            · replace h := h.1 c8
              exact w50 l1 l2 l3 r5 h ls (lv_sub hl [1, 2, 3, 4, 0] rfl)
            · replace h := h.2 c8
              exact w46 l1 l2 l3 r5 h ls (lv_sub hl [1, 2, 3, 4, 0] rfl)
          · replace h := h.2 c7
            refine lv_iload hx hb dX10_widest_31 (lv_at hl 0 rfl) ?_
            refine lv_iload_n hx hb dX10_widest_33 rfl (lv_at hl 3 rfl) ?_
            refine lv_icmp_ge (tgt := 50) hx hb dX10_widest_34 (by decide) (fun c9 => ?_) (fun c9 => ?_)
            · replace h := h.1 c9
              exact w50 l1 l2 l3 r5 h ls (lv_sub hl [1, 2, 3, 4, 0] rfl)
            · replace h := h.2 c9
              refine lv_goto (tgt := 46) hx hb dX10_widest_37 (by decide) ?_
              exact w46 l1 l2 l3 r5 h ls (lv_sub hl [1, 2, 3, 4, 0] rfl)
  have hl := lv_entry ([.ref q0, .int p1]) (n := 6) (Nat.le_of_ble_eq_true rfl)
  rw [lg_entry_eq]
  generalize (lg_sl ([.ref q0, .int p1]) ++ List.replicate (6 - (lg_sl ([.ref q0, .int p1])).length) Slot.unset).toArray = ls at hl ⊢
  have hl : lv_has ls 6 [(0, .ref q0), (1, .int p1)] := hl
  refine lv_iconst (v := (-1)) hx hb dX10_widest_0 (by decide) ?_
  refine lv_istore_n (lv' := [(2, .int (-1)), (0, .ref q0), (1, .int p1)]) hx hb dX10_widest_1 rfl hl (by decide) rfl (fun ls hl => ?_)
  refine lv_iconst (v := 0) hx hb dX10_widest_2 (by decide) ?_
  refine lv_istore_n (lv' := [(3, .int 0), (2, .int (-1)), (0, .ref q0), (1, .int p1)]) hx hb dX10_widest_3 rfl hl (by decide) rfl (fun ls hl => ?_)
  obtain ⟨k10, h⟩ := h
  exact w4 k10 p1 (-1) 0 h ls (lv_sub hl [2, 3, 1, 0] rfl)

def wp_X10_shared_j37 (v_beats : Int32) (v_rhythm : Int32) (Q : Int32 → Prop) (s0 : Int32) : Prop := Q s0
def wp_X10_shared (v_beats : Int32) (v_rhythm : Int32) (p1 : Int32) (Q : Int32 → Prop) : Prop := wp_X10_in (p1.toInt64) 0 23 fun (r1 : Int32) => (r1 = 0 → (wp_X10_shared_j37 v_beats v_rhythm Q (-1000000002))) ∧ (¬ r1 = 0 → (wp_X10_moved v_rhythm p1 v_beats fun (r3 : Int32) => wp_X10_bits (v_rhythm &&& r3) fun (r4 : Int32) => wp_X10_shared_j37 v_beats v_rhythm Q r4))
abbrev rmX10_shared : Room := { frames := 2, cells := 0, slots := 0, locals := 43 }
set_option maxRecDepth 20000 in
theorem iX10_shared_X10 : ∀ w ∈ wsX100, w ∈ wsX10_shared := by decide +kernel
set_option maxHeartbeats 4000000 in
set_option maxRecDepth 100000 in
theorem c_X10_shared (l : Launch) (dC : Nat → ClassId) (dI : Nat → Nat → Nat) (cI cZ : ClassId) (q0 q_pastBeats q_pastRhythm q_imageBeats q_imageRhythm q_imageSeed q_isKept q_heardBeat q_heardStruck q_text q_tilings q_shifts q_struck q_chosen : Nat) (v_beats : Int32) (v_rhythm : Int32) (v_seedNow : Int32) (v_undone : Int32) (v_heard : Int32) (v_textLong : Int32) (v_faultAt : Int32) (v_readBeats : Int32) (v_readRhythm : Int32) (v_tilingMany : Int32) (v_tiledBeats : Int32) (v_tiledRhythm : Int32) (v_leastSet : Int32) (v_necklaceBy : Int32) (p1 : Int32) (Q : Int32 → Prop) (h : wp_X10_shared v_beats v_rhythm p1 Q) : Met l yX10_shared wsX10_shared (rmX10_shared) (va_Pc [.ref q0, .int p1] (fun U => va_P (dC, dI) vwCl [(q0, .inr (7, [.int v_beats, .int v_rhythm, .int v_seedNow, .ref q_pastBeats, .ref q_pastRhythm, .int v_undone, .ref q_imageBeats, .ref q_imageRhythm, .ref q_imageSeed, .ref q_isKept, .ref q_heardBeat, .ref q_heardStruck, .int v_heard, .ref q_text, .int v_textLong, .int v_faultAt, .int v_readBeats, .int v_readRhythm, .ref q_tilings, .int v_tilingMany, .int v_tiledBeats, .int v_tiledRhythm, .ref q_shifts, .ref q_struck, .ref q_chosen, .int v_leastSet, .int v_necklaceBy]))] U.heap ∧ va_K (dC, dI) vwCl (tyZ cI cZ) U ∧ nW U)) (vp_Si Q) 0 0 (fun _ => False) := by
  unfold wp_X10_shared at h
  refine Met.ofW (cc := cX10_shared) (maxL := 2) (ret := (some .int)) (by decide) rfl ?_
  intro p e s m args below meth c s₁ B hml hv
  obtain ⟨rfl, hP, hK, hN⟩ := hv
  have hx := B.exec
  have hb := B.bytes
  have hr := B.returns
  have hts := atoms_spec (ws := wsX10_shared) B.pre
  have hown : s.vm.findClass RX10 = some m.cls := findClass_of_methodNamed B.named
  have hlocks := B.notSynchronized
  have w37 : ∀ (s0 : Int32), wp_X10_shared_j37 v_beats v_rhythm Q s0 → ∀ (ls : Array Slot), lv_has ls 2 [] → W p l e (headSpec wsX10_shared (rmX10_shared)).room s m ([.ref q0, .int p1] : List Value).toArray below meth c s.heap [] 0 0 (MQ below (vp_Si Q) ([.ref q0, .int p1] : List Value).toArray s 0 0 (fun _ => False)) (F0 m 37 ls [.int s0]) := by
    intro s0 h ls hl
    unfold wp_X10_shared_j37 at h
    exact W.iret (v := s0) hx hb hr (fun t ht hW => ⟨_, rfl, h, ht⟩) (fun _ h => by cases h) dX10_shared_37
  have hl := lv_entry ([.ref q0, .int p1]) (n := 2) (Nat.le_of_ble_eq_true rfl)
  rw [lg_entry_eq]
  generalize (lg_sl ([.ref q0, .int p1]) ++ List.replicate (2 - (lg_sl ([.ref q0, .int p1])).length) Slot.unset).toArray = ls at hl ⊢
  have hl : lv_has ls 2 [(0, .ref q0), (1, .int p1)] := hl
  refine lv_iload_n hx hb dX10_shared_0 rfl (lv_at hl 1 rfl) ?_
  refine lv_i2l (v := (p1.toInt64)) hx hb dX10_shared_1 rfl ?_
  refine lv_lconst (v := 0) hx hb dX10_shared_2 (by decide) ?_
  refine lv_ldc2 (v := 23) hx hb hown (hts (.constantLong RX10 189 (23)) (by decide +kernel)) dX10_shared_3 ?_
  refine vs_calli (va_runS (As := [.long (p1.toInt64), .long 0, .long 23]) (rest := []) ⟨hx, hb, hml, hown, hts⟩ (c_X10_in l (p1.toInt64) 0 23 _ h) (va_cwS 3 hts gX10_shared_X10_in rfl rfl rfl (by decide +kernel) ⟨Nat.le_of_ble_eq_true rfl, Nat.le_of_ble_eq_true rfl⟩) ⟨fun a U g mk q => ⟨q.1, nW_call q.2⟩, fun U hU hW => ⟨rfl, nW_warm hW hN⟩⟩ rfl rfl hl.1 rfl (lv_room (Nat.le_of_ble_eq_true rfl)) dX10_shared_6 ⟨Nat.le_of_ble_eq_true rfl, Nat.le_of_ble_eq_true rfl⟩) (fun r1 h => ?_)
  refine lv_if_eq (tgt := 35) hx hb dX10_shared_9 (by decide) (fun c2 => ?_) (fun c2 => ?_)
  · replace h := h.1 c2
    refine lv_ldc (v := (-1000000002)) hx hb hown (hts (.constant RX10 75 (-1000000002)) (by decide +kernel)) dX10_shared_35 ?_
    exact w37 (-1000000002) h ls (lv_sub hl [] rfl)
  · replace h := h.2 c2
    refine lv_aload_n hx hb dX10_shared_12 rfl (lv_at hl 0 rfl) ?_
    refine va_get (D := (dC, dI)) (ci := 7) (v := .int v_rhythm) (C := RX10) (T := TX10) (N := 27) hx hb hts iX10_shared_X10 hown hK hP 0 rfl rfl 1 (by decide) (hts (.fieldLink RX10 101 "TilingBeatsModel" "rhythm" "I") (by decide +kernel)) (fun _ h9 => h9) rfl dX10_shared_13 ?_
    refine lv_aload_n hx hb dX10_shared_16 rfl (lv_at hl 0 rfl) ?_
    refine va_get (D := (dC, dI)) (ci := 7) (v := .int v_rhythm) (C := RX10) (T := TX10) (N := 27) hx hb hts iX10_shared_X10 hown hK hP 0 rfl rfl 1 (by decide) (hts (.fieldLink RX10 101 "TilingBeatsModel" "rhythm" "I") (by decide +kernel)) (fun _ h9 => h9) rfl dX10_shared_17 ?_
    refine lv_iload_n hx hb dX10_shared_20 rfl (lv_at hl 1 rfl) ?_
    refine lv_aload_n hx hb dX10_shared_21 rfl (lv_at hl 0 rfl) ?_
    refine va_get (D := (dC, dI)) (ci := 7) (v := .int v_beats) (C := RX10) (T := TX10) (N := 27) hx hb hts iX10_shared_X10 hown hK hP 0 rfl rfl 0 (by decide) (hts (.fieldLink RX10 7 "TilingBeatsModel" "beats" "I") (by decide +kernel)) (fun _ h9 => h9) rfl dX10_shared_22 ?_
    refine vs_calli (va_runS (As := [.int v_rhythm, .int p1, .int v_beats]) (rest := [.int v_rhythm]) ⟨hx, hb, hml, hown, hts⟩ (c_X10_moved l v_rhythm p1 v_beats _ h) (va_cwS 3 hts gX10_shared_X10_moved rfl rfl rfl (by decide +kernel) ⟨Nat.le_of_ble_eq_true rfl, Nat.le_of_ble_eq_true rfl⟩) ⟨fun a U g mk q => ⟨q.1, nW_call q.2⟩, fun U hU hW => ⟨rfl, nW_warm hW hN⟩⟩ rfl rfl hl.1 rfl (lv_room (Nat.le_of_ble_eq_true rfl)) dX10_shared_25 ⟨Nat.le_of_ble_eq_true rfl, Nat.le_of_ble_eq_true rfl⟩) (fun r3 h => ?_)
    refine lv_iand hx hb dX10_shared_28 ?_
    refine vs_calli (va_runS (As := [.int (v_rhythm &&& r3)]) (rest := []) ⟨hx, hb, hml, hown, hts⟩ (c_X10_bits l (v_rhythm &&& r3) _ h) (va_cwS 1 hts gX10_shared_X10_bits rfl rfl rfl (by decide +kernel) ⟨Nat.le_of_ble_eq_true rfl, Nat.le_of_ble_eq_true rfl⟩) ⟨fun a U g mk q => ⟨q.1, nW_call q.2⟩, fun U hU hW => ⟨rfl, nW_warm hW hN⟩⟩ rfl rfl hl.1 rfl (lv_room (Nat.le_of_ble_eq_true rfl)) dX10_shared_29 ⟨Nat.le_of_ble_eq_true rfl, Nat.le_of_ble_eq_true rfl⟩) (fun r4 h => ?_)
    refine lv_goto (tgt := 37) hx hb dX10_shared_32 (by decide) ?_
    exact w37 r4 h ls (lv_sub hl [] rfl)

def wp_X10_kin_j35 (v_beats : Int32) (v_rhythm : Int32) (f_imageBeats : (Nat → Int32)) (f_imageRhythm : (Nat → Int32)) (f_isKept : (Nat → Int32)) (Q : Int32 → Prop)  : Prop := Q (-1000000003)
def wp_X10_kin_j161 (v_beats : Int32) (v_rhythm : Int32) (f_imageBeats : (Nat → Int32)) (f_imageRhythm : (Nat → Int32)) (f_isKept : (Nat → Int32)) (Q : Int32 → Prop) (s0 : Int32) (s1 : Int32) : Prop := Q (s0 + s1)
def wp_X10_kin_j131 (v_beats : Int32) (v_rhythm : Int32) (f_imageBeats : (Nat → Int32)) (f_imageRhythm : (Nat → Int32)) (f_isKept : (Nat → Int32)) (Q : Int32 → Prop) (l2 : Int32) (l3 : Int32) (s0 : Int32) (s1 : Int32) : Prop := ∀ x1 : Int32, x1 = (s0 + s1) → wp_X10_behindOf l3 v_beats fun (r2 : Int32) => wp_X10_isMoved r2 l2 v_beats fun (r3 : Int32) => (r3 = 0 → (wp_X10_kin_j161 v_beats v_rhythm f_imageBeats f_imageRhythm f_isKept Q x1 0)) ∧ (¬ r3 = 0 → (wp_X10_kin_j161 v_beats v_rhythm f_imageBeats f_imageRhythm f_isKept Q x1 8))
def wp_X10_kin_j109 (v_beats : Int32) (v_rhythm : Int32) (f_imageBeats : (Nat → Int32)) (f_imageRhythm : (Nat → Int32)) (f_isKept : (Nat → Int32)) (Q : Int32 → Prop) (l2 : Int32) (l3 : Int32) (s0 : Int32) (s1 : Int32) : Prop := ∀ x5 : Int32, x5 = (s0 + s1) → wp_X10_isMoved l3 l2 v_beats fun (r6 : Int32) => (r6 = 0 → (wp_X10_kin_j131 v_beats v_rhythm f_imageBeats f_imageRhythm f_isKept Q l2 l3 x5 0)) ∧ (¬ r6 = 0 → (wp_X10_kin_j131 v_beats v_rhythm f_imageBeats f_imageRhythm f_isKept Q l2 l3 x5 4))
def wp_X10_kin_j78 (v_beats : Int32) (v_rhythm : Int32) (f_imageBeats : (Nat → Int32)) (f_imageRhythm : (Nat → Int32)) (f_isKept : (Nat → Int32)) (Q : Int32 → Prop) (l2 : Int32) (l3 : Int32) (s0 : Int32) : Prop := wp_X10_behindOf v_rhythm v_beats fun (r8 : Int32) => wp_X10_isMoved r8 l2 v_beats fun (r9 : Int32) => (r9 = 0 → (wp_X10_kin_j109 v_beats v_rhythm f_imageBeats f_imageRhythm f_isKept Q l2 l3 s0 0)) ∧ (¬ r9 = 0 → (wp_X10_kin_j109 v_beats v_rhythm f_imageBeats f_imageRhythm f_isKept Q l2 l3 s0 2))
def wp_X10_kin (v_beats : Int32) (v_rhythm : Int32) (f_imageBeats : (Nat → Int32)) (f_imageRhythm : (Nat → Int32)) (f_isKept : (Nat → Int32)) (p1 : Int32) (Q : Int32 → Prop) : Prop := wp_X10_in (p1.toInt64) 0 1 fun (r11 : Int32) => (¬ r11 = 0 → (vp_in p1 2 ∧ ((f_isKept (p1 : Int32).toNatClampNeg) = 0 → (wp_X10_kin_j35 v_beats v_rhythm f_imageBeats f_imageRhythm f_isKept Q )) ∧ (¬ (f_isKept (p1 : Int32).toNatClampNeg) = 0 → (vp_in p1 2 ∧ ((f_imageBeats (p1 : Int32).toNatClampNeg) = v_beats → (vp_in p1 2 ∧ ∀ x15 : Int32, x15 = (f_imageRhythm (p1 : Int32).toNatClampNeg) → wp_X10_full v_beats fun (r16 : Int32) => ∀ x17 : Int32, x17 = (v_rhythm ^^^ r16) → wp_X10_isMoved v_rhythm x15 v_beats fun (r18 : Int32) => (r18 = 0 → (wp_X10_kin_j78 v_beats v_rhythm f_imageBeats f_imageRhythm f_isKept Q x15 x17 0)) ∧ (¬ r18 = 0 → (wp_X10_kin_j78 v_beats v_rhythm f_imageBeats f_imageRhythm f_isKept Q x15 x17 1)))) ∧ (¬ (f_imageBeats (p1 : Int32).toNatClampNeg) = v_beats → (wp_X10_kin_j35 v_beats v_rhythm f_imageBeats f_imageRhythm f_isKept Q )))))) ∧ (r11 = 0 → (Q (-1000000001)))
abbrev rmX10_kin : Room := { frames := 3, cells := 0, slots := 0, locals := 67 }
set_option maxRecDepth 20000 in
theorem iX10_kin_X10 : ∀ w ∈ wsX100, w ∈ wsX10_kin := by decide +kernel
set_option maxHeartbeats 4000000 in
set_option maxRecDepth 100000 in
theorem c_X10_kin (l : Launch) (dC : Nat → ClassId) (dI : Nat → Nat → Nat) (cI cZ : ClassId) (q0 q_pastBeats q_pastRhythm q_imageBeats q_imageRhythm q_imageSeed q_isKept q_heardBeat q_heardStruck q_text q_tilings q_shifts q_struck q_chosen : Nat) (v_beats : Int32) (v_rhythm : Int32) (v_seedNow : Int32) (v_undone : Int32) (v_heard : Int32) (v_textLong : Int32) (v_faultAt : Int32) (v_readBeats : Int32) (v_readRhythm : Int32) (v_tilingMany : Int32) (v_tiledBeats : Int32) (v_tiledRhythm : Int32) (v_leastSet : Int32) (v_necklaceBy : Int32) (f_imageBeats : (Nat → Int32)) (f_imageRhythm : (Nat → Int32)) (f_isKept : (Nat → Int32)) (p1 : Int32) (Q : Int32 → Prop) (h : wp_X10_kin v_beats v_rhythm f_imageBeats f_imageRhythm f_isKept p1 Q) : Met l yX10_kin wsX10_kin (rmX10_kin) (va_Pc [.ref q0, .int p1] (fun U => va_P (dC, dI) vwCl [(q0, .inr (7, [.int v_beats, .int v_rhythm, .int v_seedNow, .ref q_pastBeats, .ref q_pastRhythm, .int v_undone, .ref q_imageBeats, .ref q_imageRhythm, .ref q_imageSeed, .ref q_isKept, .ref q_heardBeat, .ref q_heardStruck, .int v_heard, .ref q_text, .int v_textLong, .int v_faultAt, .int v_readBeats, .int v_readRhythm, .ref q_tilings, .int v_tilingMany, .int v_tiledBeats, .int v_tiledRhythm, .ref q_shifts, .ref q_struck, .ref q_chosen, .int v_leastSet, .int v_necklaceBy])), (q_imageBeats, .inl (cI, 2, .inl f_imageBeats)), (q_imageRhythm, .inl (cI, 2, .inl f_imageRhythm)), (q_isKept, .inl (cZ, 2, .inl f_isKept))] U.heap ∧ va_K (dC, dI) vwCl (tyZ cI cZ) U ∧ nW U)) (vp_Si Q) 0 0 (fun _ => False) := by
  unfold wp_X10_kin at h
  refine Met.ofW (cc := cX10_kin) (maxL := 5) (ret := (some .int)) (by decide) rfl ?_
  intro p e s m args below meth c s₁ B hml hv
  obtain ⟨rfl, hP, hK, hN⟩ := hv
  have hx := B.exec
  have hb := B.bytes
  have hr := B.returns
  have hts := atoms_spec (ws := wsX10_kin) B.pre
  have hown : s.vm.findClass RX10 = some m.cls := findClass_of_methodNamed B.named
  have hlocks := B.notSynchronized
  have w35 : wp_X10_kin_j35 v_beats v_rhythm f_imageBeats f_imageRhythm f_isKept Q → ∀ (ls : Array Slot), lv_has ls 5 [] → W p l e (headSpec wsX10_kin (rmX10_kin)).room s m ([.ref q0, .int p1] : List Value).toArray below meth c s.heap [] 0 0 (MQ below (vp_Si Q) ([.ref q0, .int p1] : List Value).toArray s 0 0 (fun _ => False)) (F0 m 35 ls []) := by
    intro  h ls hl
    unfold wp_X10_kin_j35 at h
    refine lv_ldc (v := (-1000000003)) hx hb hown (hts (.constant RX10 191 (-1000000003)) (by decide +kernel)) dX10_kin_35 ?_
    exact W.iret (v := (-1000000003)) hx hb hr (fun t ht hW => ⟨_, rfl, h, ht⟩) (fun _ h => by cases h) dX10_kin_37
  have w161 : ∀ (s0 : Int32) (s1 : Int32), wp_X10_kin_j161 v_beats v_rhythm f_imageBeats f_imageRhythm f_isKept Q s0 s1 → ∀ (ls : Array Slot), lv_has ls 5 [] → W p l e (headSpec wsX10_kin (rmX10_kin)).room s m ([.ref q0, .int p1] : List Value).toArray below meth c s.heap [] 0 0 (MQ below (vp_Si Q) ([.ref q0, .int p1] : List Value).toArray s 0 0 (fun _ => False)) (F0 m 161 ls [.int s1, .int s0]) := by
    intro s0 s1 h ls hl
    unfold wp_X10_kin_j161 at h
    refine lv_iadd hx hb dX10_kin_161 ?_
    exact W.iret (v := (s0 + s1)) hx hb hr (fun t ht hW => ⟨_, rfl, h, ht⟩) (fun _ h => by cases h) dX10_kin_162
  have w131 : ∀ (l2 : Int32) (l3 : Int32) (s0 : Int32) (s1 : Int32), wp_X10_kin_j131 v_beats v_rhythm f_imageBeats f_imageRhythm f_isKept Q l2 l3 s0 s1 → ∀ (ls : Array Slot), lv_has ls 5 [(0, .ref q0), (2, .int l2), (3, .int l3)] → W p l e (headSpec wsX10_kin (rmX10_kin)).room s m ([.ref q0, .int p1] : List Value).toArray below meth c s.heap [] 0 0 (MQ below (vp_Si Q) ([.ref q0, .int p1] : List Value).toArray s 0 0 (fun _ => False)) (F0 m 131 ls [.int s1, .int s0]) := by
    intro l2 l3 s0 s1 h ls hl
    unfold wp_X10_kin_j131 at h
    refine lv_iadd hx hb dX10_kin_131 ?_
    refine lv_topi (fun x1 ex1 => ?_)
    replace h := h x1 ex1
    refine lv_istore (lv' := [(4, .int x1), (0, .ref q0), (2, .int l2), (3, .int l3)]) hx hb dX10_kin_132 hl (by decide) rfl (fun ls hl => ?_)
    refine lv_iload hx hb dX10_kin_134 (lv_at hl 0 rfl) ?_
    refine lv_iload_n hx hb dX10_kin_136 rfl (lv_at hl 3 rfl) ?_
    refine lv_aload_n hx hb dX10_kin_137 rfl (lv_at hl 1 rfl) ?_
    refine va_get (D := (dC, dI)) (ci := 7) (v := .int v_beats) (C := RX10) (T := TX10) (N := 27) hx hb hts iX10_kin_X10 hown hK hP 0 rfl rfl 0 (by decide) (hts (.fieldLink RX10 7 "TilingBeatsModel" "beats" "I") (by decide +kernel)) (fun _ h9 => h9) rfl dX10_kin_138 ?_
    refine vs_calli (va_runS (As := [.int l3, .int v_beats]) (rest := [.int x1]) ⟨hx, hb, hml, hown, hts⟩ (c_X10_behindOf l l3 v_beats _ h) (va_cwS 2 hts gX10_kin_X10_behindOf rfl rfl rfl (by decide +kernel) ⟨Nat.le_of_ble_eq_true rfl, Nat.le_of_ble_eq_true rfl⟩) ⟨fun a U g mk q => ⟨q.1, nW_call q.2⟩, fun U hU hW => ⟨rfl, nW_warm hW hN⟩⟩ rfl rfl hl.1 rfl (lv_room (Nat.le_of_ble_eq_true rfl)) dX10_kin_141 ⟨Nat.le_of_ble_eq_true rfl, Nat.le_of_ble_eq_true rfl⟩) (fun r2 h => ?_)
    refine lv_iload_n hx hb dX10_kin_144 rfl (lv_at hl 2 rfl) ?_
    refine lv_aload_n hx hb dX10_kin_145 rfl (lv_at hl 1 rfl) ?_
    refine va_get (D := (dC, dI)) (ci := 7) (v := .int v_beats) (C := RX10) (T := TX10) (N := 27) hx hb hts iX10_kin_X10 hown hK hP 0 rfl rfl 0 (by decide) (hts (.fieldLink RX10 7 "TilingBeatsModel" "beats" "I") (by decide +kernel)) (fun _ h9 => h9) rfl dX10_kin_146 ?_
    refine vs_calli (va_runS (As := [.int r2, .int l2, .int v_beats]) (rest := [.int x1]) ⟨hx, hb, hml, hown, hts⟩ (c_X10_isMoved l r2 l2 v_beats _ h) (va_cwS 3 hts gX10_kin_X10_isMoved rfl rfl rfl (by decide +kernel) ⟨Nat.le_of_ble_eq_true rfl, Nat.le_of_ble_eq_true rfl⟩) ⟨fun a U g mk q => ⟨q.1, nW_call q.2⟩, fun U hU hW => ⟨rfl, nW_warm hW hN⟩⟩ rfl rfl hl.1 rfl (lv_room (Nat.le_of_ble_eq_true rfl)) dX10_kin_149 ⟨Nat.le_of_ble_eq_true rfl, Nat.le_of_ble_eq_true rfl⟩) (fun r3 h => ?_)
    refine lv_if_eq (tgt := 160) hx hb dX10_kin_152 (by decide) (fun c4 => ?_) (fun c4 => ?_)
    · replace h := h.1 c4
      refine lv_iconst (v := 0) hx hb dX10_kin_160 (by decide) ?_
      exact w161 x1 0 h ls (lv_sub hl [] rfl)
    · replace h := h.2 c4
      refine lv_bipush (v := 8) hx hb dX10_kin_155 (by decide) ?_
      refine lv_goto (tgt := 161) hx hb dX10_kin_157 (by decide) ?_
      exact w161 x1 8 h ls (lv_sub hl [] rfl)
  have w109 : ∀ (l2 : Int32) (l3 : Int32) (s0 : Int32) (s1 : Int32), wp_X10_kin_j109 v_beats v_rhythm f_imageBeats f_imageRhythm f_isKept Q l2 l3 s0 s1 → ∀ (ls : Array Slot), lv_has ls 5 [(0, .ref q0), (2, .int l2), (3, .int l3)] → W p l e (headSpec wsX10_kin (rmX10_kin)).room s m ([.ref q0, .int p1] : List Value).toArray below meth c s.heap [] 0 0 (MQ below (vp_Si Q) ([.ref q0, .int p1] : List Value).toArray s 0 0 (fun _ => False)) (F0 m 109 ls [.int s1, .int s0]) := by
    intro l2 l3 s0 s1 h ls hl
    unfold wp_X10_kin_j109 at h
    refine lv_iadd hx hb dX10_kin_109 ?_
    refine lv_topi (fun x5 ex5 => ?_)
    replace h := h x5 ex5
    refine lv_istore (lv' := [(4, .int x5), (0, .ref q0), (2, .int l2), (3, .int l3)]) hx hb dX10_kin_110 hl (by decide) rfl (fun ls hl => ?_)
    refine lv_iload hx hb dX10_kin_112 (lv_at hl 0 rfl) ?_
    refine lv_iload_n hx hb dX10_kin_114 rfl (lv_at hl 3 rfl) ?_
    refine lv_iload_n hx hb dX10_kin_115 rfl (lv_at hl 2 rfl) ?_
    refine lv_aload_n hx hb dX10_kin_116 rfl (lv_at hl 1 rfl) ?_
    refine va_get (D := (dC, dI)) (ci := 7) (v := .int v_beats) (C := RX10) (T := TX10) (N := 27) hx hb hts iX10_kin_X10 hown hK hP 0 rfl rfl 0 (by decide) (hts (.fieldLink RX10 7 "TilingBeatsModel" "beats" "I") (by decide +kernel)) (fun _ h9 => h9) rfl dX10_kin_117 ?_
    refine vs_calli (va_runS (As := [.int l3, .int l2, .int v_beats]) (rest := [.int x5]) ⟨hx, hb, hml, hown, hts⟩ (c_X10_isMoved l l3 l2 v_beats _ h) (va_cwS 3 hts gX10_kin_X10_isMoved rfl rfl rfl (by decide +kernel) ⟨Nat.le_of_ble_eq_true rfl, Nat.le_of_ble_eq_true rfl⟩) ⟨fun a U g mk q => ⟨q.1, nW_call q.2⟩, fun U hU hW => ⟨rfl, nW_warm hW hN⟩⟩ rfl rfl hl.1 rfl (lv_room (Nat.le_of_ble_eq_true rfl)) dX10_kin_120 ⟨Nat.le_of_ble_eq_true rfl, Nat.le_of_ble_eq_true rfl⟩) (fun r6 h => ?_)
    refine lv_if_eq (tgt := 130) hx hb dX10_kin_123 (by decide) (fun c7 => ?_) (fun c7 => ?_)
    · replace h := h.1 c7
      refine lv_iconst (v := 0) hx hb dX10_kin_130 (by decide) ?_
      exact w131 l2 l3 x5 0 h ls (lv_sub hl [1, 2, 3] rfl)
    · replace h := h.2 c7
      refine lv_iconst (v := 4) hx hb dX10_kin_126 (by decide) ?_
      refine lv_goto (tgt := 131) hx hb dX10_kin_127 (by decide) ?_
      exact w131 l2 l3 x5 4 h ls (lv_sub hl [1, 2, 3] rfl)
  have w78 : ∀ (l2 : Int32) (l3 : Int32) (s0 : Int32), wp_X10_kin_j78 v_beats v_rhythm f_imageBeats f_imageRhythm f_isKept Q l2 l3 s0 → ∀ (ls : Array Slot), lv_has ls 5 [(0, .ref q0), (2, .int l2), (3, .int l3)] → W p l e (headSpec wsX10_kin (rmX10_kin)).room s m ([.ref q0, .int p1] : List Value).toArray below meth c s.heap [] 0 0 (MQ below (vp_Si Q) ([.ref q0, .int p1] : List Value).toArray s 0 0 (fun _ => False)) (F0 m 78 ls [.int s0]) := by
    intro l2 l3 s0 h ls hl
    unfold wp_X10_kin_j78 at h
    refine lv_istore (lv' := [(4, .int s0), (0, .ref q0), (2, .int l2), (3, .int l3)]) hx hb dX10_kin_78 hl (by decide) rfl (fun ls hl => ?_)
    refine lv_iload hx hb dX10_kin_80 (lv_at hl 0 rfl) ?_
    refine lv_aload_n hx hb dX10_kin_82 rfl (lv_at hl 1 rfl) ?_
    refine va_get (D := (dC, dI)) (ci := 7) (v := .int v_rhythm) (C := RX10) (T := TX10) (N := 27) hx hb hts iX10_kin_X10 hown hK hP 0 rfl rfl 1 (by decide) (hts (.fieldLink RX10 101 "TilingBeatsModel" "rhythm" "I") (by decide +kernel)) (fun _ h9 => h9) rfl dX10_kin_83 ?_
    refine lv_aload_n hx hb dX10_kin_86 rfl (lv_at hl 1 rfl) ?_
    refine va_get (D := (dC, dI)) (ci := 7) (v := .int v_beats) (C := RX10) (T := TX10) (N := 27) hx hb hts iX10_kin_X10 hown hK hP 0 rfl rfl 0 (by decide) (hts (.fieldLink RX10 7 "TilingBeatsModel" "beats" "I") (by decide +kernel)) (fun _ h9 => h9) rfl dX10_kin_87 ?_
    refine vs_calli (va_runS (As := [.int v_rhythm, .int v_beats]) (rest := [.int s0]) ⟨hx, hb, hml, hown, hts⟩ (c_X10_behindOf l v_rhythm v_beats _ h) (va_cwS 2 hts gX10_kin_X10_behindOf rfl rfl rfl (by decide +kernel) ⟨Nat.le_of_ble_eq_true rfl, Nat.le_of_ble_eq_true rfl⟩) ⟨fun a U g mk q => ⟨q.1, nW_call q.2⟩, fun U hU hW => ⟨rfl, nW_warm hW hN⟩⟩ rfl rfl hl.1 rfl (lv_room (Nat.le_of_ble_eq_true rfl)) dX10_kin_90 ⟨Nat.le_of_ble_eq_true rfl, Nat.le_of_ble_eq_true rfl⟩) (fun r8 h => ?_)
    refine lv_iload_n hx hb dX10_kin_93 rfl (lv_at hl 2 rfl) ?_
    refine lv_aload_n hx hb dX10_kin_94 rfl (lv_at hl 1 rfl) ?_
    refine va_get (D := (dC, dI)) (ci := 7) (v := .int v_beats) (C := RX10) (T := TX10) (N := 27) hx hb hts iX10_kin_X10 hown hK hP 0 rfl rfl 0 (by decide) (hts (.fieldLink RX10 7 "TilingBeatsModel" "beats" "I") (by decide +kernel)) (fun _ h9 => h9) rfl dX10_kin_95 ?_
    refine vs_calli (va_runS (As := [.int r8, .int l2, .int v_beats]) (rest := [.int s0]) ⟨hx, hb, hml, hown, hts⟩ (c_X10_isMoved l r8 l2 v_beats _ h) (va_cwS 3 hts gX10_kin_X10_isMoved rfl rfl rfl (by decide +kernel) ⟨Nat.le_of_ble_eq_true rfl, Nat.le_of_ble_eq_true rfl⟩) ⟨fun a U g mk q => ⟨q.1, nW_call q.2⟩, fun U hU hW => ⟨rfl, nW_warm hW hN⟩⟩ rfl rfl hl.1 rfl (lv_room (Nat.le_of_ble_eq_true rfl)) dX10_kin_98 ⟨Nat.le_of_ble_eq_true rfl, Nat.le_of_ble_eq_true rfl⟩) (fun r9 h => ?_)
    refine lv_if_eq (tgt := 108) hx hb dX10_kin_101 (by decide) (fun c10 => ?_) (fun c10 => ?_)
    · replace h := h.1 c10
      refine lv_iconst (v := 0) hx hb dX10_kin_108 (by decide) ?_
      exact w109 l2 l3 s0 0 h ls (lv_sub hl [1, 2, 3] rfl)
    · replace h := h.2 c10
      refine lv_iconst (v := 2) hx hb dX10_kin_104 (by decide) ?_
      refine lv_goto (tgt := 109) hx hb dX10_kin_105 (by decide) ?_
      exact w109 l2 l3 s0 2 h ls (lv_sub hl [1, 2, 3] rfl)
  have hl := lv_entry ([.ref q0, .int p1]) (n := 5) (Nat.le_of_ble_eq_true rfl)
  rw [lg_entry_eq]
  generalize (lg_sl ([.ref q0, .int p1]) ++ List.replicate (5 - (lg_sl ([.ref q0, .int p1])).length) Slot.unset).toArray = ls at hl ⊢
  have hl : lv_has ls 5 [(0, .ref q0), (1, .int p1)] := hl
  refine lv_iload_n hx hb dX10_kin_0 rfl (lv_at hl 1 rfl) ?_
  refine lv_i2l (v := (p1.toInt64)) hx hb dX10_kin_1 rfl ?_
  refine lv_lconst (v := 0) hx hb dX10_kin_2 (by decide) ?_
  refine lv_lconst (v := 1) hx hb dX10_kin_3 (by decide) ?_
  refine vs_calli (va_runS (As := [.long (p1.toInt64), .long 0, .long 1]) (rest := []) ⟨hx, hb, hml, hown, hts⟩ (c_X10_in l (p1.toInt64) 0 1 _ h) (va_cwS 3 hts gX10_kin_X10_in rfl rfl rfl (by decide +kernel) ⟨Nat.le_of_ble_eq_true rfl, Nat.le_of_ble_eq_true rfl⟩) ⟨fun a U g mk q => ⟨q.1, nW_call q.2⟩, fun U hU hW => ⟨rfl, nW_warm hW hN⟩⟩ rfl rfl hl.1 rfl (lv_room (Nat.le_of_ble_eq_true rfl)) dX10_kin_4 ⟨Nat.le_of_ble_eq_true rfl, Nat.le_of_ble_eq_true rfl⟩) (fun r11 h => ?_)
  refine lv_if_ne (tgt := 13) hx hb dX10_kin_7 (by decide) (fun c12 => ?_) (fun c12 => ?_)
  · replace h := h.1 c12
    refine lv_aload_n hx hb dX10_kin_13 rfl (lv_at hl 0 rfl) ?_
    refine va_get (D := (dC, dI)) (ci := 7) (v := .ref q_isKept) (C := RX10) (T := TX10) (N := 27) hx hb hts iX10_kin_X10 hown hK hP 0 rfl rfl 9 (by decide) (hts (.fieldLink RX10 29 "TilingBeatsModel" "isKept" "[Z") (by decide +kernel)) (fun _ h9 => h9) rfl dX10_kin_14 ?_
    refine lv_iload_n hx hb dX10_kin_17 rfl (lv_at hl 1 rfl) ?_
    refine va_zald (D := (dC, dI)) hx hb hK hP 3 1 rfl rfl h.1 dX10_kin_18 ?_
    replace h := h.2
    refine lv_if_eq (tgt := 35) hx hb dX10_kin_19 (by decide) (fun c13 => ?_) (fun c13 => ?_)
    · replace h := h.1 c13
      exact w35  h ls (lv_sub hl [] rfl)
    · replace h := h.2 c13
      refine lv_aload_n hx hb dX10_kin_22 rfl (lv_at hl 0 rfl) ?_
      refine va_get (D := (dC, dI)) (ci := 7) (v := .ref q_imageBeats) (C := RX10) (T := TX10) (N := 27) hx hb hts iX10_kin_X10 hown hK hP 0 rfl rfl 6 (by decide) (hts (.fieldLink RX10 20 "TilingBeatsModel" "imageBeats" "[I") (by decide +kernel)) (fun _ h9 => h9) rfl dX10_kin_23 ?_
      refine lv_iload_n hx hb dX10_kin_26 rfl (lv_at hl 1 rfl) ?_
      refine va_iald (D := (dC, dI)) hx hb hK hP 1 0 rfl rfl h.1 dX10_kin_27 ?_
      replace h := h.2
      refine lv_aload_n hx hb dX10_kin_28 rfl (lv_at hl 0 rfl) ?_
      refine va_get (D := (dC, dI)) (ci := 7) (v := .int v_beats) (C := RX10) (T := TX10) (N := 27) hx hb hts iX10_kin_X10 hown hK hP 0 rfl rfl 0 (by decide) (hts (.fieldLink RX10 7 "TilingBeatsModel" "beats" "I") (by decide +kernel)) (fun _ h9 => h9) rfl dX10_kin_29 ?_
      refine lv_icmp_eq (tgt := 38) hx hb dX10_kin_32 (by decide) (fun c14 => ?_) (fun c14 => ?_)
      · replace h := h.1 c14
        refine lv_aload_n hx hb dX10_kin_38 rfl (lv_at hl 0 rfl) ?_
        refine va_get (D := (dC, dI)) (ci := 7) (v := .ref q_imageRhythm) (C := RX10) (T := TX10) (N := 27) hx hb hts iX10_kin_X10 hown hK hP 0 rfl rfl 7 (by decide) (hts (.fieldLink RX10 23 "TilingBeatsModel" "imageRhythm" "[I") (by decide +kernel)) (fun _ h9 => h9) rfl dX10_kin_39 ?_
        refine lv_iload_n hx hb dX10_kin_42 rfl (lv_at hl 1 rfl) ?_
        refine va_iald (D := (dC, dI)) hx hb hK hP 2 0 rfl rfl h.1 dX10_kin_43 ?_
        replace h := h.2
        refine lv_topi (fun x15 ex15 => ?_)
        replace h := h x15 ex15
        refine lv_istore_n (lv' := [(2, .int x15), (0, .ref q0), (1, .int p1)]) hx hb dX10_kin_44 rfl hl (by decide) rfl (fun ls hl => ?_)
        refine lv_aload_n hx hb dX10_kin_45 rfl (lv_at hl 1 rfl) ?_
        refine va_get (D := (dC, dI)) (ci := 7) (v := .int v_rhythm) (C := RX10) (T := TX10) (N := 27) hx hb hts iX10_kin_X10 hown hK hP 0 rfl rfl 1 (by decide) (hts (.fieldLink RX10 101 "TilingBeatsModel" "rhythm" "I") (by decide +kernel)) (fun _ h9 => h9) rfl dX10_kin_46 ?_
        refine lv_aload_n hx hb dX10_kin_49 rfl (lv_at hl 1 rfl) ?_
        refine va_get (D := (dC, dI)) (ci := 7) (v := .int v_beats) (C := RX10) (T := TX10) (N := 27) hx hb hts iX10_kin_X10 hown hK hP 0 rfl rfl 0 (by decide) (hts (.fieldLink RX10 7 "TilingBeatsModel" "beats" "I") (by decide +kernel)) (fun _ h9 => h9) rfl dX10_kin_50 ?_
        refine vs_calli (va_runS (As := [.int v_beats]) (rest := [.int v_rhythm]) ⟨hx, hb, hml, hown, hts⟩ (c_X10_full l v_beats _ h) (va_cwS 1 hts gX10_kin_X10_full rfl rfl rfl (by decide +kernel) ⟨Nat.le_of_ble_eq_true rfl, Nat.le_of_ble_eq_true rfl⟩) ⟨fun a U g mk q => ⟨q.1, nW_call q.2⟩, fun U hU hW => ⟨rfl, nW_warm hW hN⟩⟩ rfl rfl hl.1 rfl (lv_room (Nat.le_of_ble_eq_true rfl)) dX10_kin_53 ⟨Nat.le_of_ble_eq_true rfl, Nat.le_of_ble_eq_true rfl⟩) (fun r16 h => ?_)
        refine lv_ixor hx hb dX10_kin_56 ?_
        refine lv_topi (fun x17 ex17 => ?_)
        replace h := h x17 ex17
        refine lv_istore_n (lv' := [(3, .int x17), (2, .int x15), (0, .ref q0), (1, .int p1)]) hx hb dX10_kin_57 rfl hl (by decide) rfl (fun ls hl => ?_)
        refine lv_aload_n hx hb dX10_kin_58 rfl (lv_at hl 2 rfl) ?_
        refine va_get (D := (dC, dI)) (ci := 7) (v := .int v_rhythm) (C := RX10) (T := TX10) (N := 27) hx hb hts iX10_kin_X10 hown hK hP 0 rfl rfl 1 (by decide) (hts (.fieldLink RX10 101 "TilingBeatsModel" "rhythm" "I") (by decide +kernel)) (fun _ h9 => h9) rfl dX10_kin_59 ?_
        refine lv_iload_n hx hb dX10_kin_62 rfl (lv_at hl 1 rfl) ?_
        refine lv_aload_n hx hb dX10_kin_63 rfl (lv_at hl 2 rfl) ?_
        refine va_get (D := (dC, dI)) (ci := 7) (v := .int v_beats) (C := RX10) (T := TX10) (N := 27) hx hb hts iX10_kin_X10 hown hK hP 0 rfl rfl 0 (by decide) (hts (.fieldLink RX10 7 "TilingBeatsModel" "beats" "I") (by decide +kernel)) (fun _ h9 => h9) rfl dX10_kin_64 ?_
        refine vs_calli (va_runS (As := [.int v_rhythm, .int x15, .int v_beats]) (rest := []) ⟨hx, hb, hml, hown, hts⟩ (c_X10_isMoved l v_rhythm x15 v_beats _ h) (va_cwS 3 hts gX10_kin_X10_isMoved rfl rfl rfl (by decide +kernel) ⟨Nat.le_of_ble_eq_true rfl, Nat.le_of_ble_eq_true rfl⟩) ⟨fun a U g mk q => ⟨q.1, nW_call q.2⟩, fun U hU hW => ⟨rfl, nW_warm hW hN⟩⟩ rfl rfl hl.1 rfl (lv_room (Nat.le_of_ble_eq_true rfl)) dX10_kin_67 ⟨Nat.le_of_ble_eq_true rfl, Nat.le_of_ble_eq_true rfl⟩) (fun r18 h => ?_)
        refine lv_if_eq (tgt := 77) hx hb dX10_kin_70 (by decide) (fun c19 => ?_) (fun c19 => ?_)
        · replace h := h.1 c19
          refine lv_iconst (v := 0) hx hb dX10_kin_77 (by decide) ?_
          exact w78 x15 x17 0 h ls (lv_sub hl [2, 1, 0] rfl)
        · replace h := h.2 c19
          refine lv_iconst (v := 1) hx hb dX10_kin_73 (by decide) ?_
          refine lv_goto (tgt := 78) hx hb dX10_kin_74 (by decide) ?_
          exact w78 x15 x17 1 h ls (lv_sub hl [2, 1, 0] rfl)
      · replace h := h.2 c14
        exact w35  h ls (lv_sub hl [] rfl)
  · replace h := h.2 c12
    refine lv_ldc (v := (-1000000001)) hx hb hown (hts (.constant RX10 139 (-1000000001)) (by decide +kernel)) dX10_kin_10 ?_
    exact W.iret (v := (-1000000001)) hx hb hr (fun t ht hW => ⟨_, rfl, h, ht⟩) (fun _ h => by cases h) dX10_kin_12

def wp_X10_steady_j24 (Q : Int32 → Prop)  : Prop := Q (-1000000002)
def wp_X10_steady_h34 (Q : Int32 → Prop) : Nat → Int32 → Int32 → Int64 → Int32 → Prop
  | 0, _, _, _, _ => False
  | z34 + 1, l1, l2, l3, l5 => (l1 ≤ l5 → (Q ((l3 : Int64).toInt32))) ∧ (¬ l1 ≤ l5 → ((¬ (100 : Int64) = 0) ∧ ∀ x2 : Int64, x2 = ((l3 * (l2.toInt64)) / 100) → ∀ x3 : Int32, x3 = l5 + 1 → (wp_X10_steady_h34 Q z34) l1 l2 x2 x3))
def wp_X10_steady (p1 : Int32) (p2 : Int32) (Q : Int32 → Prop) : Prop := wp_X10_in (p1.toInt64) 0 60 fun (r4 : Int32) => (r4 = 0 → (wp_X10_steady_j24 Q )) ∧ (¬ r4 = 0 → (wp_X10_in (p2.toInt64) 0 100 fun (r6 : Int32) => (¬ r6 = 0 → (∃ k8 : Nat, wp_X10_steady_h34 Q k8 p1 p2 1000000000 0)) ∧ (r6 = 0 → (wp_X10_steady_j24 Q ))))
abbrev rmX10_steady : Room := { frames := 1, cells := 0, slots := 0, locals := 25 }
set_option maxHeartbeats 4000000 in
set_option maxRecDepth 100000 in
theorem c_X10_steady (l : Launch) (dC : Nat → ClassId) (dI : Nat → Nat → Nat) (cI cZ : ClassId) (q0 q_pastBeats q_pastRhythm q_imageBeats q_imageRhythm q_imageSeed q_isKept q_heardBeat q_heardStruck q_text q_tilings q_shifts q_struck q_chosen : Nat) (v_beats : Int32) (v_rhythm : Int32) (v_seedNow : Int32) (v_undone : Int32) (v_heard : Int32) (v_textLong : Int32) (v_faultAt : Int32) (v_readBeats : Int32) (v_readRhythm : Int32) (v_tilingMany : Int32) (v_tiledBeats : Int32) (v_tiledRhythm : Int32) (v_leastSet : Int32) (v_necklaceBy : Int32) (p1 : Int32) (p2 : Int32) (Q : Int32 → Prop) (h : wp_X10_steady p1 p2 Q) : Met l yX10_steady wsX10_steady (rmX10_steady) (va_Pc [.ref q0, .int p1, .int p2] (fun U => va_P (dC, dI) vwCl [(q0, .inr (7, [.int v_beats, .int v_rhythm, .int v_seedNow, .ref q_pastBeats, .ref q_pastRhythm, .int v_undone, .ref q_imageBeats, .ref q_imageRhythm, .ref q_imageSeed, .ref q_isKept, .ref q_heardBeat, .ref q_heardStruck, .int v_heard, .ref q_text, .int v_textLong, .int v_faultAt, .int v_readBeats, .int v_readRhythm, .ref q_tilings, .int v_tilingMany, .int v_tiledBeats, .int v_tiledRhythm, .ref q_shifts, .ref q_struck, .ref q_chosen, .int v_leastSet, .int v_necklaceBy]))] U.heap ∧ va_K (dC, dI) vwCl (tyZ cI cZ) U ∧ nW U)) (vp_Si Q) 0 0 (fun _ => False) := by
  unfold wp_X10_steady at h
  refine Met.ofW (cc := cX10_steady) (maxL := 6) (ret := (some .int)) (by decide) rfl ?_
  intro p e s m args below meth c s₁ B hml hv
  obtain ⟨rfl, hP, hK, hN⟩ := hv
  have hx := B.exec
  have hb := B.bytes
  have hr := B.returns
  have hts := atoms_spec (ws := wsX10_steady) B.pre
  have hown : s.vm.findClass RX10 = some m.cls := findClass_of_methodNamed B.named
  have hlocks := B.notSynchronized
  have w24 : wp_X10_steady_j24 Q → ∀ (ls : Array Slot), lv_has ls 6 [] → W p l e (headSpec wsX10_steady (rmX10_steady)).room s m ([.ref q0, .int p1, .int p2] : List Value).toArray below meth c s.heap [] 0 0 (MQ below (vp_Si Q) ([.ref q0, .int p1, .int p2] : List Value).toArray s 0 0 (fun _ => False)) (F0 m 24 ls []) := by
    intro  h ls hl
    unfold wp_X10_steady_j24 at h
    refine lv_ldc (v := (-1000000002)) hx hb hown (hts (.constant RX10 75 (-1000000002)) (by decide +kernel)) dX10_steady_24 ?_
    exact W.iret (v := (-1000000002)) hx hb hr (fun t ht hW => ⟨_, rfl, h, ht⟩) (fun _ h => by cases h) dX10_steady_26
  have w34 : ∀ (z34 : Nat) (l1 : Int32) (l2 : Int32) (l3 : Int64) (l5 : Int32), wp_X10_steady_h34 Q z34 l1 l2 l3 l5 → ∀ (ls : Array Slot), lv_has ls 6 [(1, .int l1), (2, .int l2), (3, .long l3), (5, .int l5)] → W p l e (headSpec wsX10_steady (rmX10_steady)).room s m ([.ref q0, .int p1, .int p2] : List Value).toArray below meth c s.heap [] 0 0 (MQ below (vp_Si Q) ([.ref q0, .int p1, .int p2] : List Value).toArray s 0 0 (fun _ => False)) (F0 m 34 ls []) := by
    intro z34
    induction z34 with
    | zero => intro l1 l2 l3 l5 h; unfold wp_X10_steady_h34 at h; exact h.elim
    | succ z34 k34 =>
      intro l1 l2 l3 l5 h ls hl
      unfold wp_X10_steady_h34 at h
      refine lv_iload hx hb dX10_steady_34 (lv_at hl 3 rfl) ?_
      refine lv_iload_n hx hb dX10_steady_36 rfl (lv_at hl 0 rfl) ?_
      refine lv_icmp_ge (tgt := 55) hx hb dX10_steady_37 (by decide) (fun c1 => ?_) (fun c1 => ?_)
      · replace h := h.1 c1
        refine lv_lload_n hx hb dX10_steady_55 rfl (lv_at hl 2 rfl) ?_
        refine lv_l2i (v := ((l3 : Int64).toInt32)) hx hb dX10_steady_56 rfl ?_
        exact W.iret (v := ((l3 : Int64).toInt32)) hx hb hr (fun t ht hW => ⟨_, rfl, h, ht⟩) (fun _ h => by cases h) dX10_steady_57
      · replace h := h.2 c1
        refine lv_lload_n hx hb dX10_steady_40 rfl (lv_at hl 2 rfl) ?_
        refine lv_iload_n hx hb dX10_steady_41 rfl (lv_at hl 1 rfl) ?_
        refine lv_i2l (v := (l2.toInt64)) hx hb dX10_steady_42 rfl ?_
        refine lv_lmul hx hb dX10_steady_43 ?_
        refine lv_ldc2 (v := 100) hx hb hown (hts (.constantLong RX10 201 (100)) (by decide +kernel)) dX10_steady_44 ?_
        refine lv_ldiv hx hb dX10_steady_47 h.1 ?_
        replace h := h.2
        refine lv_topl (fun x2 ex2 => ?_)
        replace h := h x2 ex2
        refine lv_lstore_n (lv' := [(3, .long x2), (1, .int l1), (2, .int l2), (5, .int l5)]) hx hb dX10_steady_48 rfl hl (by decide) rfl (fun ls hl => ?_)
        obtain ⟨x3, ex3⟩ : ∃ y : Int32, y = l5 + 1 := ⟨_, rfl⟩
        replace h := h x3 ex3
        refine lv_iinc (v := x3) (lv' := [(5, .int x3), (3, .long x2), (1, .int l1), (2, .int l2)]) hx hb dX10_steady_49 hl (k := 3) rfl (by rw [ex3]; rfl) (by decide) rfl (fun ls hl => ?_)
        refine lv_goto (tgt := 34) hx hb dX10_steady_52 (by decide) ?_
        exact k34 l1 l2 x2 x3 h ls (lv_sub hl [2, 3, 1, 0] rfl)
  have hl := lv_entry ([.ref q0, .int p1, .int p2]) (n := 6) (Nat.le_of_ble_eq_true rfl)
  rw [lg_entry_eq]
  generalize (lg_sl ([.ref q0, .int p1, .int p2]) ++ List.replicate (6 - (lg_sl ([.ref q0, .int p1, .int p2])).length) Slot.unset).toArray = ls at hl ⊢
  have hl : lv_has ls 6 [(0, .ref q0), (1, .int p1), (2, .int p2)] := hl
  refine lv_iload_n hx hb dX10_steady_0 rfl (lv_at hl 1 rfl) ?_
  refine lv_i2l (v := (p1.toInt64)) hx hb dX10_steady_1 rfl ?_
  refine lv_lconst (v := 0) hx hb dX10_steady_2 (by decide) ?_
  refine lv_ldc2 (v := 60) hx hb hown (hts (.constantLong RX10 199 (60)) (by decide +kernel)) dX10_steady_3 ?_
  refine vs_calli (va_runS (As := [.long (p1.toInt64), .long 0, .long 60]) (rest := []) ⟨hx, hb, hml, hown, hts⟩ (c_X10_in l (p1.toInt64) 0 60 _ h) (va_cwS 3 hts gX10_steady_X10_in rfl rfl rfl (by decide +kernel) ⟨Nat.le_of_ble_eq_true rfl, Nat.le_of_ble_eq_true rfl⟩) ⟨fun a U g mk q => ⟨q.1, nW_call q.2⟩, fun U hU hW => ⟨rfl, nW_warm hW hN⟩⟩ rfl rfl hl.1 rfl (lv_room (Nat.le_of_ble_eq_true rfl)) dX10_steady_6 ⟨Nat.le_of_ble_eq_true rfl, Nat.le_of_ble_eq_true rfl⟩) (fun r4 h => ?_)
  refine lv_if_eq (tgt := 24) hx hb dX10_steady_9 (by decide) (fun c5 => ?_) (fun c5 => ?_)
  · replace h := h.1 c5
    exact w24  h ls (lv_sub hl [] rfl)
  · replace h := h.2 c5
    refine lv_iload_n hx hb dX10_steady_12 rfl (lv_at hl 2 rfl) ?_
    refine lv_i2l (v := (p2.toInt64)) hx hb dX10_steady_13 rfl ?_
    refine lv_lconst (v := 0) hx hb dX10_steady_14 (by decide) ?_
    refine lv_ldc2 (v := 100) hx hb hown (hts (.constantLong RX10 201 (100)) (by decide +kernel)) dX10_steady_15 ?_
    refine vs_calli (va_runS (As := [.long (p2.toInt64), .long 0, .long 100]) (rest := []) ⟨hx, hb, hml, hown, hts⟩ (c_X10_in l (p2.toInt64) 0 100 _ h) (va_cwS 3 hts gX10_steady_X10_in rfl rfl rfl (by decide +kernel) ⟨Nat.le_of_ble_eq_true rfl, Nat.le_of_ble_eq_true rfl⟩) ⟨fun a U g mk q => ⟨q.1, nW_call q.2⟩, fun U hU hW => ⟨rfl, nW_warm hW hN⟩⟩ rfl rfl hl.1 rfl (lv_room (Nat.le_of_ble_eq_true rfl)) dX10_steady_18 ⟨Nat.le_of_ble_eq_true rfl, Nat.le_of_ble_eq_true rfl⟩) (fun r6 h => ?_)
    refine lv_if_ne (tgt := 27) hx hb dX10_steady_21 (by decide) (fun c7 => ?_) (fun c7 => ?_)
    · replace h := h.1 c7
      refine lv_ldc2 (v := 1000000000) hx hb hown (hts (.constantLong RX10 203 (1000000000)) (by decide +kernel)) dX10_steady_27 ?_
      refine lv_lstore_n (lv' := [(3, .long 1000000000), (0, .ref q0), (1, .int p1), (2, .int p2)]) hx hb dX10_steady_30 rfl hl (by decide) rfl (fun ls hl => ?_)
      refine lv_iconst (v := 0) hx hb dX10_steady_31 (by decide) ?_
      refine lv_istore (lv' := [(5, .int 0), (3, .long 1000000000), (0, .ref q0), (1, .int p1), (2, .int p2)]) hx hb dX10_steady_32 hl (by decide) rfl (fun ls hl => ?_)
      obtain ⟨k8, h⟩ := h
      exact w34 k8 p1 p2 1000000000 0 h ls (lv_sub hl [3, 4, 1, 0] rfl)
    · replace h := h.2 c7
      exact w24  h ls (lv_sub hl [] rfl)

def wp_X10_becomes (v_beats : Int32) (v_rhythm : Int32) (v_undone : Int32) (f_pastBeats : (Nat → Int32)) (f_pastRhythm : (Nat → Int32)) (p1 : Int32) (Q : Int32 → Int32 → Int32 → (Nat → Int32) → (Nat → Int32) → Prop) : Prop := wp_X10_save v_beats v_rhythm v_undone f_pastBeats f_pastRhythm fun (u1 : Int32) (u2 : (Nat → Int32)) (u3 : (Nat → Int32)) => Q p1 p1 u1 u2 u3
abbrev rmX10_becomes : Room := { frames := 1, cells := 0, slots := 0, locals := 21 }
set_option maxRecDepth 20000 in
theorem iX10_becomes_X10 : ∀ w ∈ wsX100, w ∈ wsX10_becomes := by decide +kernel
set_option maxHeartbeats 4000000 in
set_option maxRecDepth 100000 in
theorem c_X10_becomes (l : Launch) (dC : Nat → ClassId) (dI : Nat → Nat → Nat) (cI cZ : ClassId) (q0 q_pastBeats q_pastRhythm q_imageBeats q_imageRhythm q_imageSeed q_isKept q_heardBeat q_heardStruck q_text q_tilings q_shifts q_struck q_chosen : Nat) (sz : Nat) (v_beats : Int32) (v_rhythm : Int32) (v_seedNow : Int32) (v_undone : Int32) (v_heard : Int32) (v_textLong : Int32) (v_faultAt : Int32) (v_readBeats : Int32) (v_readRhythm : Int32) (v_tilingMany : Int32) (v_tiledBeats : Int32) (v_tiledRhythm : Int32) (v_leastSet : Int32) (v_necklaceBy : Int32) (f_pastBeats : (Nat → Int32)) (f_pastRhythm : (Nat → Int32)) (p1 : Int32) (Q : Int32 → Int32 → Int32 → (Nat → Int32) → (Nat → Int32) → Prop) (h : wp_X10_becomes v_beats v_rhythm v_undone f_pastBeats f_pastRhythm p1 Q) : Met l yX10_becomes wsX10_becomes (rmX10_becomes) (va_Pc [.ref q0, .int p1] (fun U => U.heap.size = sz ∧ va_P (dC, dI) vwCl [(q0, .inr (7, [.int v_beats, .int v_rhythm, .int v_seedNow, .ref q_pastBeats, .ref q_pastRhythm, .int v_undone, .ref q_imageBeats, .ref q_imageRhythm, .ref q_imageSeed, .ref q_isKept, .ref q_heardBeat, .ref q_heardStruck, .int v_heard, .ref q_text, .int v_textLong, .int v_faultAt, .int v_readBeats, .int v_readRhythm, .ref q_tilings, .int v_tilingMany, .int v_tiledBeats, .int v_tiledRhythm, .ref q_shifts, .ref q_struck, .ref q_chosen, .int v_leastSet, .int v_necklaceBy])), (q_pastBeats, .inl (cI, 30, .inl f_pastBeats)), (q_pastRhythm, .inl (cI, 30, .inl f_pastRhythm))] U.heap ∧ va_K (dC, dI) vwCl (tyZ cI cZ) U ∧ va_D (fun _ => True) [(q0, .inr (7, [.int v_beats, .int v_rhythm, .int v_seedNow, .ref q_pastBeats, .ref q_pastRhythm, .int v_undone, .ref q_imageBeats, .ref q_imageRhythm, .ref q_imageSeed, .ref q_isKept, .ref q_heardBeat, .ref q_heardStruck, .int v_heard, .ref q_text, .int v_textLong, .int v_faultAt, .int v_readBeats, .int v_readRhythm, .ref q_tilings, .int v_tilingMany, .int v_tiledBeats, .int v_tiledRhythm, .ref q_shifts, .ref q_struck, .ref q_chosen, .int v_leastSet, .int v_necklaceBy])), (q_pastBeats, .inl (cI, 30, .inl f_pastBeats)), (q_pastRhythm, .inl (cI, 30, .inl f_pastRhythm))] ∧ nW U)) (va_Qi (fun (r : Int32) (u : Int32 × Int32 × (Nat → Int32) × (Nat → Int32)) => Q r u.1 u.2.1 u.2.2.1 u.2.2.2) (fun (u : Int32 × Int32 × (Nat → Int32) × (Nat → Int32)) (t : State) => va_P (dC, dI) vwCl [(q0, .inr (7, [.int v_beats, .int u.1, .int v_seedNow, .ref q_pastBeats, .ref q_pastRhythm, .int u.2.1, .ref q_imageBeats, .ref q_imageRhythm, .ref q_imageSeed, .ref q_isKept, .ref q_heardBeat, .ref q_heardStruck, .int v_heard, .ref q_text, .int v_textLong, .int v_faultAt, .int v_readBeats, .int v_readRhythm, .ref q_tilings, .int v_tilingMany, .int v_tiledBeats, .int v_tiledRhythm, .ref q_shifts, .ref q_struck, .ref q_chosen, .int v_leastSet, .int v_necklaceBy])), (q_pastBeats, .inl (cI, 30, .inl u.2.2.1)), (q_pastRhythm, .inl (cI, 30, .inl u.2.2.2))] t.heap ∧ va_D (va_A [(q0, .inr (7, [.int v_beats, .int v_rhythm, .int v_seedNow, .ref q_pastBeats, .ref q_pastRhythm, .int v_undone, .ref q_imageBeats, .ref q_imageRhythm, .ref q_imageSeed, .ref q_isKept, .ref q_heardBeat, .ref q_heardStruck, .int v_heard, .ref q_text, .int v_textLong, .int v_faultAt, .int v_readBeats, .int v_readRhythm, .ref q_tilings, .int v_tilingMany, .int v_tiledBeats, .int v_tiledRhythm, .ref q_shifts, .ref q_struck, .ref q_chosen, .int v_leastSet, .int v_necklaceBy])), (q_pastBeats, .inl (cI, 30, .inl f_pastBeats)), (q_pastRhythm, .inl (cI, 30, .inl f_pastRhythm))] sz) [(q0, .inr (7, [.int v_beats, .int u.1, .int v_seedNow, .ref q_pastBeats, .ref q_pastRhythm, .int u.2.1, .ref q_imageBeats, .ref q_imageRhythm, .ref q_imageSeed, .ref q_isKept, .ref q_heardBeat, .ref q_heardStruck, .int v_heard, .ref q_text, .int v_textLong, .int v_faultAt, .int v_readBeats, .int v_readRhythm, .ref q_tilings, .int v_tilingMany, .int v_tiledBeats, .int v_tiledRhythm, .ref q_shifts, .ref q_struck, .ref q_chosen, .int v_leastSet, .int v_necklaceBy])), (q_pastBeats, .inl (cI, 30, .inl u.2.2.1)), (q_pastRhythm, .inl (cI, 30, .inl u.2.2.2))]) (va_A [(q0, .inr (7, [.int v_beats, .int v_rhythm, .int v_seedNow, .ref q_pastBeats, .ref q_pastRhythm, .int v_undone, .ref q_imageBeats, .ref q_imageRhythm, .ref q_imageSeed, .ref q_isKept, .ref q_heardBeat, .ref q_heardStruck, .int v_heard, .ref q_text, .int v_textLong, .int v_faultAt, .int v_readBeats, .int v_readRhythm, .ref q_tilings, .int v_tilingMany, .int v_tiledBeats, .int v_tiledRhythm, .ref q_shifts, .ref q_struck, .ref q_chosen, .int v_leastSet, .int v_necklaceBy])), (q_pastBeats, .inl (cI, 30, .inl f_pastBeats)), (q_pastRhythm, .inl (cI, 30, .inl f_pastRhythm))] sz)) 0 0 (va_A [(q0, .inr (7, [.int v_beats, .int v_rhythm, .int v_seedNow, .ref q_pastBeats, .ref q_pastRhythm, .int v_undone, .ref q_imageBeats, .ref q_imageRhythm, .ref q_imageSeed, .ref q_isKept, .ref q_heardBeat, .ref q_heardStruck, .int v_heard, .ref q_text, .int v_textLong, .int v_faultAt, .int v_readBeats, .int v_readRhythm, .ref q_tilings, .int v_tilingMany, .int v_tiledBeats, .int v_tiledRhythm, .ref q_shifts, .ref q_struck, .ref q_chosen, .int v_leastSet, .int v_necklaceBy])), (q_pastBeats, .inl (cI, 30, .inl f_pastBeats)), (q_pastRhythm, .inl (cI, 30, .inl f_pastRhythm))] sz) := by
  unfold wp_X10_becomes at h
  refine Met.ofW (cc := cX10_becomes) (maxL := 2) (ret := (some .int)) (by decide) rfl ?_
  intro p e s m args below meth c s₁ B hml hv
  obtain ⟨rfl, hsz, hP, hK, hD0, hN⟩ := hv
  have hx := B.exec
  have hb := B.bytes
  have hr := B.returns
  have hts := atoms_spec (ws := wsX10_becomes) B.pre
  have hown : s.vm.findClass RX10 = some m.cls := findClass_of_methodNamed B.named
  have hlocks := B.notSynchronized
  subst hsz
  have hD := hD0.self (sz := s.heap.size)
  generalize hAe : va_A [(q0, .inr (7, [.int v_beats, .int v_rhythm, .int v_seedNow, .ref q_pastBeats, .ref q_pastRhythm, .int v_undone, .ref q_imageBeats, .ref q_imageRhythm, .ref q_imageSeed, .ref q_isKept, .ref q_heardBeat, .ref q_heardStruck, .int v_heard, .ref q_text, .int v_textLong, .int v_faultAt, .int v_readBeats, .int v_readRhythm, .ref q_tilings, .int v_tilingMany, .int v_tiledBeats, .int v_tiledRhythm, .ref q_shifts, .ref q_struck, .ref q_chosen, .int v_leastSet, .int v_necklaceBy])), (q_pastBeats, .inl (cI, 30, .inl f_pastBeats)), (q_pastRhythm, .inl (cI, 30, .inl f_pastRhythm))] s.heap.size = A at hD ⊢
  have hA : ∀ q : Nat, s.heap.size ≤ q → A q := fun q h => by rw [← hAe]; exact Or.inr h
  clear hAe
  have hS : va_S A s.heap s.heap [] := va_S.rf
  have hl := lv_entry ([.ref q0, .int p1]) (n := 2) (Nat.le_of_ble_eq_true rfl)
  rw [lg_entry_eq]
  generalize (lg_sl ([.ref q0, .int p1]) ++ List.replicate (2 - (lg_sl ([.ref q0, .int p1])).length) Slot.unset).toArray = ls at hl ⊢
  have hl : lv_has ls 2 [(0, .ref q0), (1, .int p1)] := hl
  refine lv_aload_n hx hb dX10_becomes_0 rfl (lv_at hl 0 rfl) ?_
  have hPc := hP.sub (ws' := [(q0, .inr (7, [.int v_beats, .int v_rhythm, .int v_seedNow, .ref q_pastBeats, .ref q_pastRhythm, .int v_undone, .ref q_imageBeats, .ref q_imageRhythm, .ref q_imageSeed, .ref q_isKept, .ref q_heardBeat, .ref q_heardStruck, .int v_heard, .ref q_text, .int v_textLong, .int v_faultAt, .int v_readBeats, .int v_readRhythm, .ref q_tilings, .int v_tilingMany, .int v_tiledBeats, .int v_tiledRhythm, .ref q_shifts, .ref q_struck, .ref q_chosen, .int v_leastSet, .int v_necklaceBy])), (q_pastBeats, .inl (cI, 30, .inl f_pastBeats)), (q_pastRhythm, .inl (cI, 30, .inl f_pastRhythm))]) [0, 1, 2] rfl
  have hDc := hD.sub (ws' := [(q0, .inr (7, [.int v_beats, .int v_rhythm, .int v_seedNow, .ref q_pastBeats, .ref q_pastRhythm, .int v_undone, .ref q_imageBeats, .ref q_imageRhythm, .ref q_imageSeed, .ref q_isKept, .ref q_heardBeat, .ref q_heardStruck, .int v_heard, .ref q_text, .int v_textLong, .int v_faultAt, .int v_readBeats, .int v_readRhythm, .ref q_tilings, .int v_tilingMany, .int v_tiledBeats, .int v_tiledRhythm, .ref q_shifts, .ref q_struck, .ref q_chosen, .int v_leastSet, .int v_necklaceBy])), (q_pastBeats, .inl (cI, 30, .inl f_pastBeats)), (q_pastRhythm, .inl (cI, 30, .inl f_pastRhythm))]) [0, 1, 2] (by decide) rfl
  have hFc := va_free (wc := [(q0, .inr (7, [.int v_beats, .int v_rhythm, .int v_seedNow, .ref q_pastBeats, .ref q_pastRhythm, .int v_undone, .ref q_imageBeats, .ref q_imageRhythm, .ref q_imageSeed, .ref q_isKept, .ref q_heardBeat, .ref q_heardStruck, .int v_heard, .ref q_text, .int v_textLong, .int v_faultAt, .int v_readBeats, .int v_readRhythm, .ref q_tilings, .int v_tilingMany, .int v_tiledBeats, .int v_tiledRhythm, .ref q_shifts, .ref q_struck, .ref q_chosen, .int v_leastSet, .int v_necklaceBy])), (q_pastBeats, .inl (cI, 30, .inl f_pastBeats)), (q_pastRhythm, .inl (cI, 30, .inl f_pastRhythm))]) hD hS hA [0, 1, 2] rfl
  refine va_callv (va_runV (As := []) (rest := []) ⟨hx, hb, hml, hown, hts⟩ (c_X10_save l dC dI cI cZ q0 q_pastBeats q_pastRhythm q_imageBeats q_imageRhythm q_imageSeed q_isKept q_heardBeat q_heardStruck q_text q_tilings q_shifts q_struck q_chosen s.heap.size v_beats v_rhythm v_seedNow v_undone v_heard v_textLong v_faultAt v_readBeats v_readRhythm v_tilingMany v_tiledBeats v_tiledRhythm v_leastSet v_necklaceBy f_pastBeats f_pastRhythm  _ h) (cwV 0 hts gX10_becomes_X10_save rfl rfl rfl (by decide +kernel) ⟨Nat.le_of_ble_eq_true rfl, Nat.le_of_ble_eq_true rfl⟩) ⟨fun a U g mk q => ⟨q.1, q.2.1, q.2.2.1, va_K.moved (u := U) (U := U.calling g mk a) (Vm.Alike.refl U.vm) q.2.2.2.1, q.2.2.2.2.1, nW_call q.2.2.2.2.2⟩, va_recv hK hPc (ci := 7) (q0 := 0) rfl rfl, fun U hU hW => ⟨rfl, by rw [hU], by rw [hU]; exact hPc, va_K.moved hW.alike hK, hDc.weaken (fun _ _ _ _ => trivial), nW_warm hW hN⟩⟩ rfl rfl hl.1 rfl (lv_room (Nat.le_of_ble_eq_true rfl)) dX10_becomes_1 ⟨Nat.le_of_ble_eq_true rfl, Nat.le_of_ble_eq_true rfl⟩) hS (fun q _ h => hFc q h) hFc (fun u t H1 locs ht hvm hw hB hz1 hk1 hS => ?_)
  obtain ⟨u1, u2, u3⟩ := u
  obtain ⟨hP1, hD1⟩ := hB
  rw [ht] at hP1
  replace h := hw
  try dsimp only at h
  obtain ⟨hP, hD⟩ := va_join (wr := []) (w1 := [(q0, .inr (7, [.int v_beats, .int v_rhythm, .int v_seedNow, .ref q_pastBeats, .ref q_pastRhythm, .int u1, .ref q_imageBeats, .ref q_imageRhythm, .ref q_imageSeed, .ref q_isKept, .ref q_heardBeat, .ref q_heardStruck, .int v_heard, .ref q_text, .int v_textLong, .int v_faultAt, .int v_readBeats, .int v_readRhythm, .ref q_tilings, .int v_tilingMany, .int v_tiledBeats, .int v_tiledRhythm, .ref q_shifts, .ref q_struck, .ref q_chosen, .int v_leastSet, .int v_necklaceBy])), (q_pastBeats, .inl (cI, 30, .inl u2)), (q_pastRhythm, .inl (cI, 30, .inl u3))]) hP hD [0, 1, 2] [] rfl rfl (by decide) (by decide) hk1 hFc hP1 hD1
  clear hP1 hD1 hFc hDc hPc hk1 hz1 hw hvm ht
  generalize H1 = H at hP hS ⊢
  have hP : va_P (dC, dI) vwCl [(q0, .inr (7, [.int v_beats, .int v_rhythm, .int v_seedNow, .ref q_pastBeats, .ref q_pastRhythm, .int u1, .ref q_imageBeats, .ref q_imageRhythm, .ref q_imageSeed, .ref q_isKept, .ref q_heardBeat, .ref q_heardStruck, .int v_heard, .ref q_text, .int v_textLong, .int v_faultAt, .int v_readBeats, .int v_readRhythm, .ref q_tilings, .int v_tilingMany, .int v_tiledBeats, .int v_tiledRhythm, .ref q_shifts, .ref q_struck, .ref q_chosen, .int v_leastSet, .int v_necklaceBy])), (q_pastBeats, .inl (cI, 30, .inl u2)), (q_pastRhythm, .inl (cI, 30, .inl u3))] H := hP.sub [0, 1, 2] rfl
  have hD : va_D A [(q0, .inr (7, [.int v_beats, .int v_rhythm, .int v_seedNow, .ref q_pastBeats, .ref q_pastRhythm, .int u1, .ref q_imageBeats, .ref q_imageRhythm, .ref q_imageSeed, .ref q_isKept, .ref q_heardBeat, .ref q_heardStruck, .int v_heard, .ref q_text, .int v_textLong, .int v_faultAt, .int v_readBeats, .int v_readRhythm, .ref q_tilings, .int v_tilingMany, .int v_tiledBeats, .int v_tiledRhythm, .ref q_shifts, .ref q_struck, .ref q_chosen, .int v_leastSet, .int v_necklaceBy])), (q_pastBeats, .inl (cI, 30, .inl u2)), (q_pastRhythm, .inl (cI, 30, .inl u3))] := hD.sub [0, 1, 2] (by decide) rfl
  refine lv_aload_n hx hb dX10_becomes_4 rfl (lv_at hl 0 rfl) ?_
  refine lv_iload_n hx hb dX10_becomes_5 rfl (lv_at hl 1 rfl) ?_
  refine va_put (D := (dC, dI)) (ci := 7) (v := .int p1) (ty := .int) (C := RX10) (T := TX10) (N := 27) hx hb hts iX10_becomes_X10 tyX10 tyX10_ok nmX10 hown hK hP hD hS 0 rfl rfl 1 (by decide) (hts (.fieldLink RX10 101 "TilingBeatsModel" "rhythm" "I") (by decide +kernel)) (fun _ h9 => h9) rfl (by decide +kernel) rfl rfl (Nat.le_of_ble_eq_true rfl) dX10_becomes_6 (fun H locs hP hD hS => ?_)
  have hP : va_P (dC, dI) vwCl [(q0, .inr (7, [.int v_beats, .int p1, .int v_seedNow, .ref q_pastBeats, .ref q_pastRhythm, .int u1, .ref q_imageBeats, .ref q_imageRhythm, .ref q_imageSeed, .ref q_isKept, .ref q_heardBeat, .ref q_heardStruck, .int v_heard, .ref q_text, .int v_textLong, .int v_faultAt, .int v_readBeats, .int v_readRhythm, .ref q_tilings, .int v_tilingMany, .int v_tiledBeats, .int v_tiledRhythm, .ref q_shifts, .ref q_struck, .ref q_chosen, .int v_leastSet, .int v_necklaceBy])), (q_pastBeats, .inl (cI, 30, .inl u2)), (q_pastRhythm, .inl (cI, 30, .inl u3))] H := hP
  have hD : va_D A [(q0, .inr (7, [.int v_beats, .int p1, .int v_seedNow, .ref q_pastBeats, .ref q_pastRhythm, .int u1, .ref q_imageBeats, .ref q_imageRhythm, .ref q_imageSeed, .ref q_isKept, .ref q_heardBeat, .ref q_heardStruck, .int v_heard, .ref q_text, .int v_textLong, .int v_faultAt, .int v_readBeats, .int v_readRhythm, .ref q_tilings, .int v_tilingMany, .int v_tiledBeats, .int v_tiledRhythm, .ref q_shifts, .ref q_struck, .ref q_chosen, .int v_leastSet, .int v_necklaceBy])), (q_pastBeats, .inl (cI, 30, .inl u2)), (q_pastRhythm, .inl (cI, 30, .inl u3))] := hD
  refine lv_iload_n hx hb dX10_becomes_9 rfl (lv_at hl 1 rfl) ?_
  exact W.iret (v := p1) hx hb hr (fun t ht hW => ⟨⟨_, (p1, u1, u2, u3), rfl, h, by rw [ht]; exact hP, hD⟩, hS.F ht⟩) hS.2.2 dX10_becomes_10

def wp_X10_strike_j37 (v_beats : Int32) (Q : Int32 → Int32 → Int32 → (Nat → Int32) → (Nat → Int32) → Prop) (s0 : Int32) (v_rhythm : Int32) (v_undone : Int32) (f_pastBeats : (Nat → Int32)) (f_pastRhythm : (Nat → Int32)) : Prop := Q s0 v_rhythm v_undone f_pastBeats f_pastRhythm
def wp_X10_strike (v_beats : Int32) (v_rhythm : Int32) (v_undone : Int32) (f_pastBeats : (Nat → Int32)) (f_pastRhythm : (Nat → Int32)) (p1 : Int32) (Q : Int32 → Int32 → Int32 → (Nat → Int32) → (Nat → Int32) → Prop) : Prop := wp_X10_isBeat v_beats p1 fun (r1 : Int32) => (¬ r1 = 0 → (wp_X10_becomes v_beats v_rhythm v_undone f_pastBeats f_pastRhythm (v_rhythm ^^^ (1 <<< (p1 &&& 31))) fun (r3 : Int32) (u4 : Int32) (u5 : Int32) (u6 : (Nat → Int32)) (u7 : (Nat → Int32)) => wp_X10_has r3 p1 fun (r8 : Int32) => (r8 = 0 → (wp_X10_strike_j37 v_beats Q 0 u4 u5 u6 u7)) ∧ (¬ r8 = 0 → (wp_X10_strike_j37 v_beats Q 1 u4 u5 u6 u7)))) ∧ (r1 = 0 → (Q (-1000000001) v_rhythm v_undone f_pastBeats f_pastRhythm))
abbrev rmX10_strike : Room := { frames := 2, cells := 0, slots := 0, locals := 46 }
set_option maxRecDepth 20000 in
theorem iX10_strike_X10 : ∀ w ∈ wsX100, w ∈ wsX10_strike := by decide +kernel
set_option maxHeartbeats 4000000 in
set_option maxRecDepth 100000 in
theorem c_X10_strike (l : Launch) (dC : Nat → ClassId) (dI : Nat → Nat → Nat) (cI cZ : ClassId) (q0 q_pastBeats q_pastRhythm q_imageBeats q_imageRhythm q_imageSeed q_isKept q_heardBeat q_heardStruck q_text q_tilings q_shifts q_struck q_chosen : Nat) (sz : Nat) (v_beats : Int32) (v_rhythm : Int32) (v_seedNow : Int32) (v_undone : Int32) (v_heard : Int32) (v_textLong : Int32) (v_faultAt : Int32) (v_readBeats : Int32) (v_readRhythm : Int32) (v_tilingMany : Int32) (v_tiledBeats : Int32) (v_tiledRhythm : Int32) (v_leastSet : Int32) (v_necklaceBy : Int32) (f_pastBeats : (Nat → Int32)) (f_pastRhythm : (Nat → Int32)) (p1 : Int32) (Q : Int32 → Int32 → Int32 → (Nat → Int32) → (Nat → Int32) → Prop) (h : wp_X10_strike v_beats v_rhythm v_undone f_pastBeats f_pastRhythm p1 Q) : Met l yX10_strike wsX10_strike (rmX10_strike) (va_Pc [.ref q0, .int p1] (fun U => U.heap.size = sz ∧ va_P (dC, dI) vwCl [(q0, .inr (7, [.int v_beats, .int v_rhythm, .int v_seedNow, .ref q_pastBeats, .ref q_pastRhythm, .int v_undone, .ref q_imageBeats, .ref q_imageRhythm, .ref q_imageSeed, .ref q_isKept, .ref q_heardBeat, .ref q_heardStruck, .int v_heard, .ref q_text, .int v_textLong, .int v_faultAt, .int v_readBeats, .int v_readRhythm, .ref q_tilings, .int v_tilingMany, .int v_tiledBeats, .int v_tiledRhythm, .ref q_shifts, .ref q_struck, .ref q_chosen, .int v_leastSet, .int v_necklaceBy])), (q_pastBeats, .inl (cI, 30, .inl f_pastBeats)), (q_pastRhythm, .inl (cI, 30, .inl f_pastRhythm))] U.heap ∧ va_K (dC, dI) vwCl (tyZ cI cZ) U ∧ va_D (fun _ => True) [(q0, .inr (7, [.int v_beats, .int v_rhythm, .int v_seedNow, .ref q_pastBeats, .ref q_pastRhythm, .int v_undone, .ref q_imageBeats, .ref q_imageRhythm, .ref q_imageSeed, .ref q_isKept, .ref q_heardBeat, .ref q_heardStruck, .int v_heard, .ref q_text, .int v_textLong, .int v_faultAt, .int v_readBeats, .int v_readRhythm, .ref q_tilings, .int v_tilingMany, .int v_tiledBeats, .int v_tiledRhythm, .ref q_shifts, .ref q_struck, .ref q_chosen, .int v_leastSet, .int v_necklaceBy])), (q_pastBeats, .inl (cI, 30, .inl f_pastBeats)), (q_pastRhythm, .inl (cI, 30, .inl f_pastRhythm))] ∧ nW U)) (va_Qi (fun (r : Int32) (u : Int32 × Int32 × (Nat → Int32) × (Nat → Int32)) => Q r u.1 u.2.1 u.2.2.1 u.2.2.2) (fun (u : Int32 × Int32 × (Nat → Int32) × (Nat → Int32)) (t : State) => va_P (dC, dI) vwCl [(q0, .inr (7, [.int v_beats, .int u.1, .int v_seedNow, .ref q_pastBeats, .ref q_pastRhythm, .int u.2.1, .ref q_imageBeats, .ref q_imageRhythm, .ref q_imageSeed, .ref q_isKept, .ref q_heardBeat, .ref q_heardStruck, .int v_heard, .ref q_text, .int v_textLong, .int v_faultAt, .int v_readBeats, .int v_readRhythm, .ref q_tilings, .int v_tilingMany, .int v_tiledBeats, .int v_tiledRhythm, .ref q_shifts, .ref q_struck, .ref q_chosen, .int v_leastSet, .int v_necklaceBy])), (q_pastBeats, .inl (cI, 30, .inl u.2.2.1)), (q_pastRhythm, .inl (cI, 30, .inl u.2.2.2))] t.heap ∧ va_D (va_A [(q0, .inr (7, [.int v_beats, .int v_rhythm, .int v_seedNow, .ref q_pastBeats, .ref q_pastRhythm, .int v_undone, .ref q_imageBeats, .ref q_imageRhythm, .ref q_imageSeed, .ref q_isKept, .ref q_heardBeat, .ref q_heardStruck, .int v_heard, .ref q_text, .int v_textLong, .int v_faultAt, .int v_readBeats, .int v_readRhythm, .ref q_tilings, .int v_tilingMany, .int v_tiledBeats, .int v_tiledRhythm, .ref q_shifts, .ref q_struck, .ref q_chosen, .int v_leastSet, .int v_necklaceBy])), (q_pastBeats, .inl (cI, 30, .inl f_pastBeats)), (q_pastRhythm, .inl (cI, 30, .inl f_pastRhythm))] sz) [(q0, .inr (7, [.int v_beats, .int u.1, .int v_seedNow, .ref q_pastBeats, .ref q_pastRhythm, .int u.2.1, .ref q_imageBeats, .ref q_imageRhythm, .ref q_imageSeed, .ref q_isKept, .ref q_heardBeat, .ref q_heardStruck, .int v_heard, .ref q_text, .int v_textLong, .int v_faultAt, .int v_readBeats, .int v_readRhythm, .ref q_tilings, .int v_tilingMany, .int v_tiledBeats, .int v_tiledRhythm, .ref q_shifts, .ref q_struck, .ref q_chosen, .int v_leastSet, .int v_necklaceBy])), (q_pastBeats, .inl (cI, 30, .inl u.2.2.1)), (q_pastRhythm, .inl (cI, 30, .inl u.2.2.2))]) (va_A [(q0, .inr (7, [.int v_beats, .int v_rhythm, .int v_seedNow, .ref q_pastBeats, .ref q_pastRhythm, .int v_undone, .ref q_imageBeats, .ref q_imageRhythm, .ref q_imageSeed, .ref q_isKept, .ref q_heardBeat, .ref q_heardStruck, .int v_heard, .ref q_text, .int v_textLong, .int v_faultAt, .int v_readBeats, .int v_readRhythm, .ref q_tilings, .int v_tilingMany, .int v_tiledBeats, .int v_tiledRhythm, .ref q_shifts, .ref q_struck, .ref q_chosen, .int v_leastSet, .int v_necklaceBy])), (q_pastBeats, .inl (cI, 30, .inl f_pastBeats)), (q_pastRhythm, .inl (cI, 30, .inl f_pastRhythm))] sz)) 0 0 (va_A [(q0, .inr (7, [.int v_beats, .int v_rhythm, .int v_seedNow, .ref q_pastBeats, .ref q_pastRhythm, .int v_undone, .ref q_imageBeats, .ref q_imageRhythm, .ref q_imageSeed, .ref q_isKept, .ref q_heardBeat, .ref q_heardStruck, .int v_heard, .ref q_text, .int v_textLong, .int v_faultAt, .int v_readBeats, .int v_readRhythm, .ref q_tilings, .int v_tilingMany, .int v_tiledBeats, .int v_tiledRhythm, .ref q_shifts, .ref q_struck, .ref q_chosen, .int v_leastSet, .int v_necklaceBy])), (q_pastBeats, .inl (cI, 30, .inl f_pastBeats)), (q_pastRhythm, .inl (cI, 30, .inl f_pastRhythm))] sz) := by
  unfold wp_X10_strike at h
  refine Met.ofW (cc := cX10_strike) (maxL := 3) (ret := (some .int)) (by decide) rfl ?_
  intro p e s m args below meth c s₁ B hml hv
  obtain ⟨rfl, hsz, hP, hK, hD0, hN⟩ := hv
  have hx := B.exec
  have hb := B.bytes
  have hr := B.returns
  have hts := atoms_spec (ws := wsX10_strike) B.pre
  have hown : s.vm.findClass RX10 = some m.cls := findClass_of_methodNamed B.named
  have hlocks := B.notSynchronized
  subst hsz
  have hD := hD0.self (sz := s.heap.size)
  generalize hAe : va_A [(q0, .inr (7, [.int v_beats, .int v_rhythm, .int v_seedNow, .ref q_pastBeats, .ref q_pastRhythm, .int v_undone, .ref q_imageBeats, .ref q_imageRhythm, .ref q_imageSeed, .ref q_isKept, .ref q_heardBeat, .ref q_heardStruck, .int v_heard, .ref q_text, .int v_textLong, .int v_faultAt, .int v_readBeats, .int v_readRhythm, .ref q_tilings, .int v_tilingMany, .int v_tiledBeats, .int v_tiledRhythm, .ref q_shifts, .ref q_struck, .ref q_chosen, .int v_leastSet, .int v_necklaceBy])), (q_pastBeats, .inl (cI, 30, .inl f_pastBeats)), (q_pastRhythm, .inl (cI, 30, .inl f_pastRhythm))] s.heap.size = A at hD ⊢
  have hA : ∀ q : Nat, s.heap.size ≤ q → A q := fun q h => by rw [← hAe]; exact Or.inr h
  clear hAe
  have hS : va_S A s.heap s.heap [] := va_S.rf
  have w37 : ∀ (s0 : Int32) (v_rhythm : Int32) (v_undone : Int32) (f_pastBeats : (Nat → Int32)) (f_pastRhythm : (Nat → Int32)), wp_X10_strike_j37 v_beats Q s0 v_rhythm v_undone f_pastBeats f_pastRhythm → ∀ (H : Heap) (locs : List Loc) (ls : Array Slot), va_P (dC, dI) vwCl [(q0, .inr (7, [.int v_beats, .int v_rhythm, .int v_seedNow, .ref q_pastBeats, .ref q_pastRhythm, .int v_undone, .ref q_imageBeats, .ref q_imageRhythm, .ref q_imageSeed, .ref q_isKept, .ref q_heardBeat, .ref q_heardStruck, .int v_heard, .ref q_text, .int v_textLong, .int v_faultAt, .int v_readBeats, .int v_readRhythm, .ref q_tilings, .int v_tilingMany, .int v_tiledBeats, .int v_tiledRhythm, .ref q_shifts, .ref q_struck, .ref q_chosen, .int v_leastSet, .int v_necklaceBy])), (q_pastBeats, .inl (cI, 30, .inl f_pastBeats)), (q_pastRhythm, .inl (cI, 30, .inl f_pastRhythm))] H → va_D A [(q0, .inr (7, [.int v_beats, .int v_rhythm, .int v_seedNow, .ref q_pastBeats, .ref q_pastRhythm, .int v_undone, .ref q_imageBeats, .ref q_imageRhythm, .ref q_imageSeed, .ref q_isKept, .ref q_heardBeat, .ref q_heardStruck, .int v_heard, .ref q_text, .int v_textLong, .int v_faultAt, .int v_readBeats, .int v_readRhythm, .ref q_tilings, .int v_tilingMany, .int v_tiledBeats, .int v_tiledRhythm, .ref q_shifts, .ref q_struck, .ref q_chosen, .int v_leastSet, .int v_necklaceBy])), (q_pastBeats, .inl (cI, 30, .inl f_pastBeats)), (q_pastRhythm, .inl (cI, 30, .inl f_pastRhythm))] → va_S A s.heap H locs → lv_has ls 3 [] → W p l e (headSpec wsX10_strike (rmX10_strike)).room s m ([.ref q0, .int p1] : List Value).toArray below meth c H locs 0 0 (MQ below (va_Qi (fun (r : Int32) (u : Int32 × Int32 × (Nat → Int32) × (Nat → Int32)) => Q r u.1 u.2.1 u.2.2.1 u.2.2.2) (fun (u : Int32 × Int32 × (Nat → Int32) × (Nat → Int32)) (t : State) => va_P (dC, dI) vwCl [(q0, .inr (7, [.int v_beats, .int u.1, .int v_seedNow, .ref q_pastBeats, .ref q_pastRhythm, .int u.2.1, .ref q_imageBeats, .ref q_imageRhythm, .ref q_imageSeed, .ref q_isKept, .ref q_heardBeat, .ref q_heardStruck, .int v_heard, .ref q_text, .int v_textLong, .int v_faultAt, .int v_readBeats, .int v_readRhythm, .ref q_tilings, .int v_tilingMany, .int v_tiledBeats, .int v_tiledRhythm, .ref q_shifts, .ref q_struck, .ref q_chosen, .int v_leastSet, .int v_necklaceBy])), (q_pastBeats, .inl (cI, 30, .inl u.2.2.1)), (q_pastRhythm, .inl (cI, 30, .inl u.2.2.2))] t.heap ∧ va_D A [(q0, .inr (7, [.int v_beats, .int u.1, .int v_seedNow, .ref q_pastBeats, .ref q_pastRhythm, .int u.2.1, .ref q_imageBeats, .ref q_imageRhythm, .ref q_imageSeed, .ref q_isKept, .ref q_heardBeat, .ref q_heardStruck, .int v_heard, .ref q_text, .int v_textLong, .int v_faultAt, .int v_readBeats, .int v_readRhythm, .ref q_tilings, .int v_tilingMany, .int v_tiledBeats, .int v_tiledRhythm, .ref q_shifts, .ref q_struck, .ref q_chosen, .int v_leastSet, .int v_necklaceBy])), (q_pastBeats, .inl (cI, 30, .inl u.2.2.1)), (q_pastRhythm, .inl (cI, 30, .inl u.2.2.2))]) A) ([.ref q0, .int p1] : List Value).toArray s 0 0 A) (F0 m 37 ls [.int s0]) := by
    intro s0 v_rhythm v_undone f_pastBeats f_pastRhythm h H locs ls hP hD hS hl
    unfold wp_X10_strike_j37 at h
    exact W.iret (v := s0) hx hb hr (fun t ht hW => ⟨⟨_, (v_rhythm, v_undone, f_pastBeats, f_pastRhythm), rfl, h, by rw [ht]; exact hP, hD⟩, hS.F ht⟩) hS.2.2 dX10_strike_37
  have hl := lv_entry ([.ref q0, .int p1]) (n := 3) (Nat.le_of_ble_eq_true rfl)
  rw [lg_entry_eq]
  generalize (lg_sl ([.ref q0, .int p1]) ++ List.replicate (3 - (lg_sl ([.ref q0, .int p1])).length) Slot.unset).toArray = ls at hl ⊢
  have hl : lv_has ls 3 [(0, .ref q0), (1, .int p1)] := hl
  refine lv_aload_n hx hb dX10_strike_0 rfl (lv_at hl 0 rfl) ?_
  refine lv_iload_n hx hb dX10_strike_1 rfl (lv_at hl 1 rfl) ?_
  have hPc := hP.sub (ws' := [(q0, .inr (7, [.int v_beats, .int v_rhythm, .int v_seedNow, .ref q_pastBeats, .ref q_pastRhythm, .int v_undone, .ref q_imageBeats, .ref q_imageRhythm, .ref q_imageSeed, .ref q_isKept, .ref q_heardBeat, .ref q_heardStruck, .int v_heard, .ref q_text, .int v_textLong, .int v_faultAt, .int v_readBeats, .int v_readRhythm, .ref q_tilings, .int v_tilingMany, .int v_tiledBeats, .int v_tiledRhythm, .ref q_shifts, .ref q_struck, .ref q_chosen, .int v_leastSet, .int v_necklaceBy]))]) [0] rfl
  refine vs_calli (va_runV (As := [.int p1]) (rest := []) ⟨hx, hb, hml, hown, hts⟩ (c_X10_isBeat l dC dI cI cZ q0 q_pastBeats q_pastRhythm q_imageBeats q_imageRhythm q_imageSeed q_isKept q_heardBeat q_heardStruck q_text q_tilings q_shifts q_struck q_chosen v_beats v_rhythm v_seedNow v_undone v_heard v_textLong v_faultAt v_readBeats v_readRhythm v_tilingMany v_tiledBeats v_tiledRhythm v_leastSet v_necklaceBy p1 _ h) (cwV 1 hts gX10_strike_X10_isBeat rfl rfl rfl (by decide +kernel) ⟨Nat.le_of_ble_eq_true rfl, Nat.le_of_ble_eq_true rfl⟩) ⟨fun a U g mk q => ⟨q.1, q.2.1, va_K.moved (u := U) (U := U.calling g mk a) (Vm.Alike.refl U.vm) q.2.2.1, nW_call q.2.2.2⟩, va_recv hK hPc (ci := 7) (q0 := 0) rfl rfl, fun U hU hW => ⟨rfl, by rw [hU]; exact hPc, va_K.moved hW.alike hK, nW_warm hW hN⟩⟩ rfl rfl hl.1 rfl (lv_room (Nat.le_of_ble_eq_true rfl)) dX10_strike_2 ⟨Nat.le_of_ble_eq_true rfl, Nat.le_of_ble_eq_true rfl⟩) (fun r1 h => ?_)
  refine lv_if_ne (tgt := 11) hx hb dX10_strike_5 (by decide) (fun c2 => ?_) (fun c2 => ?_)
  · replace h := h.1 c2
    refine lv_aload_n hx hb dX10_strike_11 rfl (lv_at hl 0 rfl) ?_
    refine lv_aload_n hx hb dX10_strike_12 rfl (lv_at hl 0 rfl) ?_
    refine va_get (D := (dC, dI)) (ci := 7) (v := .int v_rhythm) (C := RX10) (T := TX10) (N := 27) hx hb hts iX10_strike_X10 hown hK hP 0 rfl rfl 1 (by decide) (hts (.fieldLink RX10 101 "TilingBeatsModel" "rhythm" "I") (by decide +kernel)) (fun _ h9 => h9) rfl dX10_strike_13 ?_
    refine lv_iconst (v := 1) hx hb dX10_strike_16 (by decide) ?_
    refine lv_iload_n hx hb dX10_strike_17 rfl (lv_at hl 1 rfl) ?_
    refine lv_ishl hx hb dX10_strike_18 ?_
    refine lv_ixor hx hb dX10_strike_19 ?_
    have hPc := hP.sub (ws' := [(q0, .inr (7, [.int v_beats, .int v_rhythm, .int v_seedNow, .ref q_pastBeats, .ref q_pastRhythm, .int v_undone, .ref q_imageBeats, .ref q_imageRhythm, .ref q_imageSeed, .ref q_isKept, .ref q_heardBeat, .ref q_heardStruck, .int v_heard, .ref q_text, .int v_textLong, .int v_faultAt, .int v_readBeats, .int v_readRhythm, .ref q_tilings, .int v_tilingMany, .int v_tiledBeats, .int v_tiledRhythm, .ref q_shifts, .ref q_struck, .ref q_chosen, .int v_leastSet, .int v_necklaceBy])), (q_pastBeats, .inl (cI, 30, .inl f_pastBeats)), (q_pastRhythm, .inl (cI, 30, .inl f_pastRhythm))]) [0, 1, 2] rfl
    have hDc := hD.sub (ws' := [(q0, .inr (7, [.int v_beats, .int v_rhythm, .int v_seedNow, .ref q_pastBeats, .ref q_pastRhythm, .int v_undone, .ref q_imageBeats, .ref q_imageRhythm, .ref q_imageSeed, .ref q_isKept, .ref q_heardBeat, .ref q_heardStruck, .int v_heard, .ref q_text, .int v_textLong, .int v_faultAt, .int v_readBeats, .int v_readRhythm, .ref q_tilings, .int v_tilingMany, .int v_tiledBeats, .int v_tiledRhythm, .ref q_shifts, .ref q_struck, .ref q_chosen, .int v_leastSet, .int v_necklaceBy])), (q_pastBeats, .inl (cI, 30, .inl f_pastBeats)), (q_pastRhythm, .inl (cI, 30, .inl f_pastRhythm))]) [0, 1, 2] (by decide) rfl
    have hFc := va_free (wc := [(q0, .inr (7, [.int v_beats, .int v_rhythm, .int v_seedNow, .ref q_pastBeats, .ref q_pastRhythm, .int v_undone, .ref q_imageBeats, .ref q_imageRhythm, .ref q_imageSeed, .ref q_isKept, .ref q_heardBeat, .ref q_heardStruck, .int v_heard, .ref q_text, .int v_textLong, .int v_faultAt, .int v_readBeats, .int v_readRhythm, .ref q_tilings, .int v_tilingMany, .int v_tiledBeats, .int v_tiledRhythm, .ref q_shifts, .ref q_struck, .ref q_chosen, .int v_leastSet, .int v_necklaceBy])), (q_pastBeats, .inl (cI, 30, .inl f_pastBeats)), (q_pastRhythm, .inl (cI, 30, .inl f_pastRhythm))]) hD hS hA [0, 1, 2] rfl
    refine va_calli (va_runV (As := [.int (v_rhythm ^^^ (1 <<< (p1 &&& 31)))]) (rest := []) ⟨hx, hb, hml, hown, hts⟩ (c_X10_becomes l dC dI cI cZ q0 q_pastBeats q_pastRhythm q_imageBeats q_imageRhythm q_imageSeed q_isKept q_heardBeat q_heardStruck q_text q_tilings q_shifts q_struck q_chosen s.heap.size v_beats v_rhythm v_seedNow v_undone v_heard v_textLong v_faultAt v_readBeats v_readRhythm v_tilingMany v_tiledBeats v_tiledRhythm v_leastSet v_necklaceBy f_pastBeats f_pastRhythm (v_rhythm ^^^ (1 <<< (p1 &&& 31))) _ h) (cwV 1 hts gX10_strike_X10_becomes rfl rfl rfl (by decide +kernel) ⟨Nat.le_of_ble_eq_true rfl, Nat.le_of_ble_eq_true rfl⟩) ⟨fun a U g mk q => ⟨q.1, q.2.1, q.2.2.1, va_K.moved (u := U) (U := U.calling g mk a) (Vm.Alike.refl U.vm) q.2.2.2.1, q.2.2.2.2.1, nW_call q.2.2.2.2.2⟩, va_recv hK hPc (ci := 7) (q0 := 0) rfl rfl, fun U hU hW => ⟨rfl, by rw [hU], by rw [hU]; exact hPc, va_K.moved hW.alike hK, hDc.weaken (fun _ _ _ _ => trivial), nW_warm hW hN⟩⟩ rfl rfl hl.1 rfl (lv_room (Nat.le_of_ble_eq_true rfl)) dX10_strike_20 ⟨Nat.le_of_ble_eq_true rfl, Nat.le_of_ble_eq_true rfl⟩) hS (fun q _ h => hFc q h) hFc (fun r3 u t H1 locs ht hvm hw hB hz1 hk1 hS => ?_)
    obtain ⟨u4, u5, u6, u7⟩ := u
    obtain ⟨hP1, hD1⟩ := hB
    rw [ht] at hP1
    replace h := hw
    try dsimp only at h
    obtain ⟨hP, hD⟩ := va_join (wr := []) (w1 := [(q0, .inr (7, [.int v_beats, .int u4, .int v_seedNow, .ref q_pastBeats, .ref q_pastRhythm, .int u5, .ref q_imageBeats, .ref q_imageRhythm, .ref q_imageSeed, .ref q_isKept, .ref q_heardBeat, .ref q_heardStruck, .int v_heard, .ref q_text, .int v_textLong, .int v_faultAt, .int v_readBeats, .int v_readRhythm, .ref q_tilings, .int v_tilingMany, .int v_tiledBeats, .int v_tiledRhythm, .ref q_shifts, .ref q_struck, .ref q_chosen, .int v_leastSet, .int v_necklaceBy])), (q_pastBeats, .inl (cI, 30, .inl u6)), (q_pastRhythm, .inl (cI, 30, .inl u7))]) hP hD [0, 1, 2] [] rfl rfl (by decide) (by decide) hk1 hFc hP1 hD1
    clear hP1 hD1 hFc hDc hPc hk1 hz1 hw hvm ht
    generalize H1 = H at hP hS ⊢
    have hP : va_P (dC, dI) vwCl [(q0, .inr (7, [.int v_beats, .int u4, .int v_seedNow, .ref q_pastBeats, .ref q_pastRhythm, .int u5, .ref q_imageBeats, .ref q_imageRhythm, .ref q_imageSeed, .ref q_isKept, .ref q_heardBeat, .ref q_heardStruck, .int v_heard, .ref q_text, .int v_textLong, .int v_faultAt, .int v_readBeats, .int v_readRhythm, .ref q_tilings, .int v_tilingMany, .int v_tiledBeats, .int v_tiledRhythm, .ref q_shifts, .ref q_struck, .ref q_chosen, .int v_leastSet, .int v_necklaceBy])), (q_pastBeats, .inl (cI, 30, .inl u6)), (q_pastRhythm, .inl (cI, 30, .inl u7))] H := hP.sub [0, 1, 2] rfl
    have hD : va_D A [(q0, .inr (7, [.int v_beats, .int u4, .int v_seedNow, .ref q_pastBeats, .ref q_pastRhythm, .int u5, .ref q_imageBeats, .ref q_imageRhythm, .ref q_imageSeed, .ref q_isKept, .ref q_heardBeat, .ref q_heardStruck, .int v_heard, .ref q_text, .int v_textLong, .int v_faultAt, .int v_readBeats, .int v_readRhythm, .ref q_tilings, .int v_tilingMany, .int v_tiledBeats, .int v_tiledRhythm, .ref q_shifts, .ref q_struck, .ref q_chosen, .int v_leastSet, .int v_necklaceBy])), (q_pastBeats, .inl (cI, 30, .inl u6)), (q_pastRhythm, .inl (cI, 30, .inl u7))] := hD.sub [0, 1, 2] (by decide) rfl
    refine lv_istore_n (lv' := [(2, .int r3), (0, .ref q0), (1, .int p1)]) hx hb dX10_strike_23 rfl hl (by decide) rfl (fun ls hl => ?_)
    refine lv_iload_n hx hb dX10_strike_24 rfl (lv_at hl 0 rfl) ?_
    refine lv_iload_n hx hb dX10_strike_25 rfl (lv_at hl 2 rfl) ?_
    refine vs_calli (va_runS (As := [.int r3, .int p1]) (rest := []) ⟨hx, hb, hml, hown, hts⟩ (c_X10_has l r3 p1 _ h) (va_cwS 2 hts gX10_strike_X10_has rfl rfl rfl (by decide +kernel) ⟨Nat.le_of_ble_eq_true rfl, Nat.le_of_ble_eq_true rfl⟩) ⟨fun a U g mk q => ⟨q.1, nW_call q.2⟩, fun U hU hW => ⟨rfl, nW_warm hW hN⟩⟩ rfl rfl hl.1 rfl (lv_room (Nat.le_of_ble_eq_true rfl)) dX10_strike_26 ⟨Nat.le_of_ble_eq_true rfl, Nat.le_of_ble_eq_true rfl⟩) (fun r8 h => ?_)
    refine lv_if_eq (tgt := 36) hx hb dX10_strike_29 (by decide) (fun c9 => ?_) (fun c9 => ?_)
    · replace h := h.1 c9
      refine lv_iconst (v := 0) hx hb dX10_strike_36 (by decide) ?_
      exact w37 0 u4 u5 u6 u7 h H locs ls hP hD hS (lv_sub hl [] rfl)
    · replace h := h.2 c9
      refine lv_iconst (v := 1) hx hb dX10_strike_32 (by decide) ?_
      refine lv_goto (tgt := 37) hx hb dX10_strike_33 (by decide) ?_
      exact w37 1 u4 u5 u6 u7 h H locs ls hP hD hS (lv_sub hl [] rfl)
  · replace h := h.2 c2
    refine lv_ldc (v := (-1000000001)) hx hb hown (hts (.constant RX10 139 (-1000000001)) (by decide +kernel)) dX10_strike_8 ?_
    exact W.iret (v := (-1000000001)) hx hb hr (fun t ht hW => ⟨⟨_, (v_rhythm, v_undone, f_pastBeats, f_pastRhythm), rfl, h, by rw [ht]; exact hP, hD⟩, hS.F ht⟩) hS.2.2 dX10_strike_10

def wp_X10_even_j31 (v_beats : Int32) (Q : Int32 → Int32 → Int32 → (Nat → Int32) → (Nat → Int32) → Prop) (s0 : Int32) (v_rhythm : Int32) (v_undone : Int32) (f_pastBeats : (Nat → Int32)) (f_pastRhythm : (Nat → Int32)) : Prop := Q s0 v_rhythm v_undone f_pastBeats f_pastRhythm
def wp_X10_even (v_beats : Int32) (v_rhythm : Int32) (v_undone : Int32) (f_pastBeats : (Nat → Int32)) (f_pastRhythm : (Nat → Int32)) (p1 : Int32) (Q : Int32 → Int32 → Int32 → (Nat → Int32) → (Nat → Int32) → Prop) : Prop := wp_X10_in (p1.toInt64) 0 (v_beats.toInt64) fun (r1 : Int32) => (r1 = 0 → (wp_X10_even_j31 v_beats Q (-1000000002) v_rhythm v_undone f_pastBeats f_pastRhythm)) ∧ (¬ r1 = 0 → (wp_X10_evenOf p1 v_beats fun (r3 : Int32) => wp_X10_becomes v_beats v_rhythm v_undone f_pastBeats f_pastRhythm r3 fun (r4 : Int32) (u5 : Int32) (u6 : Int32) (u7 : (Nat → Int32)) (u8 : (Nat → Int32)) => wp_X10_even_j31 v_beats Q r4 u5 u6 u7 u8))
abbrev rmX10_even : Room := { frames := 2, cells := 0, slots := 0, locals := 42 }
set_option maxRecDepth 20000 in
theorem iX10_even_X10 : ∀ w ∈ wsX100, w ∈ wsX10_even := by decide +kernel
set_option maxHeartbeats 4000000 in
set_option maxRecDepth 100000 in
theorem c_X10_even (l : Launch) (dC : Nat → ClassId) (dI : Nat → Nat → Nat) (cI cZ : ClassId) (q0 q_pastBeats q_pastRhythm q_imageBeats q_imageRhythm q_imageSeed q_isKept q_heardBeat q_heardStruck q_text q_tilings q_shifts q_struck q_chosen : Nat) (sz : Nat) (v_beats : Int32) (v_rhythm : Int32) (v_seedNow : Int32) (v_undone : Int32) (v_heard : Int32) (v_textLong : Int32) (v_faultAt : Int32) (v_readBeats : Int32) (v_readRhythm : Int32) (v_tilingMany : Int32) (v_tiledBeats : Int32) (v_tiledRhythm : Int32) (v_leastSet : Int32) (v_necklaceBy : Int32) (f_pastBeats : (Nat → Int32)) (f_pastRhythm : (Nat → Int32)) (p1 : Int32) (Q : Int32 → Int32 → Int32 → (Nat → Int32) → (Nat → Int32) → Prop) (h : wp_X10_even v_beats v_rhythm v_undone f_pastBeats f_pastRhythm p1 Q) : Met l yX10_even wsX10_even (rmX10_even) (va_Pc [.ref q0, .int p1] (fun U => U.heap.size = sz ∧ va_P (dC, dI) vwCl [(q0, .inr (7, [.int v_beats, .int v_rhythm, .int v_seedNow, .ref q_pastBeats, .ref q_pastRhythm, .int v_undone, .ref q_imageBeats, .ref q_imageRhythm, .ref q_imageSeed, .ref q_isKept, .ref q_heardBeat, .ref q_heardStruck, .int v_heard, .ref q_text, .int v_textLong, .int v_faultAt, .int v_readBeats, .int v_readRhythm, .ref q_tilings, .int v_tilingMany, .int v_tiledBeats, .int v_tiledRhythm, .ref q_shifts, .ref q_struck, .ref q_chosen, .int v_leastSet, .int v_necklaceBy])), (q_pastBeats, .inl (cI, 30, .inl f_pastBeats)), (q_pastRhythm, .inl (cI, 30, .inl f_pastRhythm))] U.heap ∧ va_K (dC, dI) vwCl (tyZ cI cZ) U ∧ va_D (fun _ => True) [(q0, .inr (7, [.int v_beats, .int v_rhythm, .int v_seedNow, .ref q_pastBeats, .ref q_pastRhythm, .int v_undone, .ref q_imageBeats, .ref q_imageRhythm, .ref q_imageSeed, .ref q_isKept, .ref q_heardBeat, .ref q_heardStruck, .int v_heard, .ref q_text, .int v_textLong, .int v_faultAt, .int v_readBeats, .int v_readRhythm, .ref q_tilings, .int v_tilingMany, .int v_tiledBeats, .int v_tiledRhythm, .ref q_shifts, .ref q_struck, .ref q_chosen, .int v_leastSet, .int v_necklaceBy])), (q_pastBeats, .inl (cI, 30, .inl f_pastBeats)), (q_pastRhythm, .inl (cI, 30, .inl f_pastRhythm))] ∧ nW U)) (va_Qi (fun (r : Int32) (u : Int32 × Int32 × (Nat → Int32) × (Nat → Int32)) => Q r u.1 u.2.1 u.2.2.1 u.2.2.2) (fun (u : Int32 × Int32 × (Nat → Int32) × (Nat → Int32)) (t : State) => va_P (dC, dI) vwCl [(q0, .inr (7, [.int v_beats, .int u.1, .int v_seedNow, .ref q_pastBeats, .ref q_pastRhythm, .int u.2.1, .ref q_imageBeats, .ref q_imageRhythm, .ref q_imageSeed, .ref q_isKept, .ref q_heardBeat, .ref q_heardStruck, .int v_heard, .ref q_text, .int v_textLong, .int v_faultAt, .int v_readBeats, .int v_readRhythm, .ref q_tilings, .int v_tilingMany, .int v_tiledBeats, .int v_tiledRhythm, .ref q_shifts, .ref q_struck, .ref q_chosen, .int v_leastSet, .int v_necklaceBy])), (q_pastBeats, .inl (cI, 30, .inl u.2.2.1)), (q_pastRhythm, .inl (cI, 30, .inl u.2.2.2))] t.heap ∧ va_D (va_A [(q0, .inr (7, [.int v_beats, .int v_rhythm, .int v_seedNow, .ref q_pastBeats, .ref q_pastRhythm, .int v_undone, .ref q_imageBeats, .ref q_imageRhythm, .ref q_imageSeed, .ref q_isKept, .ref q_heardBeat, .ref q_heardStruck, .int v_heard, .ref q_text, .int v_textLong, .int v_faultAt, .int v_readBeats, .int v_readRhythm, .ref q_tilings, .int v_tilingMany, .int v_tiledBeats, .int v_tiledRhythm, .ref q_shifts, .ref q_struck, .ref q_chosen, .int v_leastSet, .int v_necklaceBy])), (q_pastBeats, .inl (cI, 30, .inl f_pastBeats)), (q_pastRhythm, .inl (cI, 30, .inl f_pastRhythm))] sz) [(q0, .inr (7, [.int v_beats, .int u.1, .int v_seedNow, .ref q_pastBeats, .ref q_pastRhythm, .int u.2.1, .ref q_imageBeats, .ref q_imageRhythm, .ref q_imageSeed, .ref q_isKept, .ref q_heardBeat, .ref q_heardStruck, .int v_heard, .ref q_text, .int v_textLong, .int v_faultAt, .int v_readBeats, .int v_readRhythm, .ref q_tilings, .int v_tilingMany, .int v_tiledBeats, .int v_tiledRhythm, .ref q_shifts, .ref q_struck, .ref q_chosen, .int v_leastSet, .int v_necklaceBy])), (q_pastBeats, .inl (cI, 30, .inl u.2.2.1)), (q_pastRhythm, .inl (cI, 30, .inl u.2.2.2))]) (va_A [(q0, .inr (7, [.int v_beats, .int v_rhythm, .int v_seedNow, .ref q_pastBeats, .ref q_pastRhythm, .int v_undone, .ref q_imageBeats, .ref q_imageRhythm, .ref q_imageSeed, .ref q_isKept, .ref q_heardBeat, .ref q_heardStruck, .int v_heard, .ref q_text, .int v_textLong, .int v_faultAt, .int v_readBeats, .int v_readRhythm, .ref q_tilings, .int v_tilingMany, .int v_tiledBeats, .int v_tiledRhythm, .ref q_shifts, .ref q_struck, .ref q_chosen, .int v_leastSet, .int v_necklaceBy])), (q_pastBeats, .inl (cI, 30, .inl f_pastBeats)), (q_pastRhythm, .inl (cI, 30, .inl f_pastRhythm))] sz)) 0 0 (va_A [(q0, .inr (7, [.int v_beats, .int v_rhythm, .int v_seedNow, .ref q_pastBeats, .ref q_pastRhythm, .int v_undone, .ref q_imageBeats, .ref q_imageRhythm, .ref q_imageSeed, .ref q_isKept, .ref q_heardBeat, .ref q_heardStruck, .int v_heard, .ref q_text, .int v_textLong, .int v_faultAt, .int v_readBeats, .int v_readRhythm, .ref q_tilings, .int v_tilingMany, .int v_tiledBeats, .int v_tiledRhythm, .ref q_shifts, .ref q_struck, .ref q_chosen, .int v_leastSet, .int v_necklaceBy])), (q_pastBeats, .inl (cI, 30, .inl f_pastBeats)), (q_pastRhythm, .inl (cI, 30, .inl f_pastRhythm))] sz) := by
  unfold wp_X10_even at h
  refine Met.ofW (cc := cX10_even) (maxL := 2) (ret := (some .int)) (by decide) rfl ?_
  intro p e s m args below meth c s₁ B hml hv
  obtain ⟨rfl, hsz, hP, hK, hD0, hN⟩ := hv
  have hx := B.exec
  have hb := B.bytes
  have hr := B.returns
  have hts := atoms_spec (ws := wsX10_even) B.pre
  have hown : s.vm.findClass RX10 = some m.cls := findClass_of_methodNamed B.named
  have hlocks := B.notSynchronized
  subst hsz
  have hD := hD0.self (sz := s.heap.size)
  generalize hAe : va_A [(q0, .inr (7, [.int v_beats, .int v_rhythm, .int v_seedNow, .ref q_pastBeats, .ref q_pastRhythm, .int v_undone, .ref q_imageBeats, .ref q_imageRhythm, .ref q_imageSeed, .ref q_isKept, .ref q_heardBeat, .ref q_heardStruck, .int v_heard, .ref q_text, .int v_textLong, .int v_faultAt, .int v_readBeats, .int v_readRhythm, .ref q_tilings, .int v_tilingMany, .int v_tiledBeats, .int v_tiledRhythm, .ref q_shifts, .ref q_struck, .ref q_chosen, .int v_leastSet, .int v_necklaceBy])), (q_pastBeats, .inl (cI, 30, .inl f_pastBeats)), (q_pastRhythm, .inl (cI, 30, .inl f_pastRhythm))] s.heap.size = A at hD ⊢
  have hA : ∀ q : Nat, s.heap.size ≤ q → A q := fun q h => by rw [← hAe]; exact Or.inr h
  clear hAe
  have hS : va_S A s.heap s.heap [] := va_S.rf
  have w31 : ∀ (s0 : Int32) (v_rhythm : Int32) (v_undone : Int32) (f_pastBeats : (Nat → Int32)) (f_pastRhythm : (Nat → Int32)), wp_X10_even_j31 v_beats Q s0 v_rhythm v_undone f_pastBeats f_pastRhythm → ∀ (H : Heap) (locs : List Loc) (ls : Array Slot), va_P (dC, dI) vwCl [(q0, .inr (7, [.int v_beats, .int v_rhythm, .int v_seedNow, .ref q_pastBeats, .ref q_pastRhythm, .int v_undone, .ref q_imageBeats, .ref q_imageRhythm, .ref q_imageSeed, .ref q_isKept, .ref q_heardBeat, .ref q_heardStruck, .int v_heard, .ref q_text, .int v_textLong, .int v_faultAt, .int v_readBeats, .int v_readRhythm, .ref q_tilings, .int v_tilingMany, .int v_tiledBeats, .int v_tiledRhythm, .ref q_shifts, .ref q_struck, .ref q_chosen, .int v_leastSet, .int v_necklaceBy])), (q_pastBeats, .inl (cI, 30, .inl f_pastBeats)), (q_pastRhythm, .inl (cI, 30, .inl f_pastRhythm))] H → va_D A [(q0, .inr (7, [.int v_beats, .int v_rhythm, .int v_seedNow, .ref q_pastBeats, .ref q_pastRhythm, .int v_undone, .ref q_imageBeats, .ref q_imageRhythm, .ref q_imageSeed, .ref q_isKept, .ref q_heardBeat, .ref q_heardStruck, .int v_heard, .ref q_text, .int v_textLong, .int v_faultAt, .int v_readBeats, .int v_readRhythm, .ref q_tilings, .int v_tilingMany, .int v_tiledBeats, .int v_tiledRhythm, .ref q_shifts, .ref q_struck, .ref q_chosen, .int v_leastSet, .int v_necklaceBy])), (q_pastBeats, .inl (cI, 30, .inl f_pastBeats)), (q_pastRhythm, .inl (cI, 30, .inl f_pastRhythm))] → va_S A s.heap H locs → lv_has ls 2 [] → W p l e (headSpec wsX10_even (rmX10_even)).room s m ([.ref q0, .int p1] : List Value).toArray below meth c H locs 0 0 (MQ below (va_Qi (fun (r : Int32) (u : Int32 × Int32 × (Nat → Int32) × (Nat → Int32)) => Q r u.1 u.2.1 u.2.2.1 u.2.2.2) (fun (u : Int32 × Int32 × (Nat → Int32) × (Nat → Int32)) (t : State) => va_P (dC, dI) vwCl [(q0, .inr (7, [.int v_beats, .int u.1, .int v_seedNow, .ref q_pastBeats, .ref q_pastRhythm, .int u.2.1, .ref q_imageBeats, .ref q_imageRhythm, .ref q_imageSeed, .ref q_isKept, .ref q_heardBeat, .ref q_heardStruck, .int v_heard, .ref q_text, .int v_textLong, .int v_faultAt, .int v_readBeats, .int v_readRhythm, .ref q_tilings, .int v_tilingMany, .int v_tiledBeats, .int v_tiledRhythm, .ref q_shifts, .ref q_struck, .ref q_chosen, .int v_leastSet, .int v_necklaceBy])), (q_pastBeats, .inl (cI, 30, .inl u.2.2.1)), (q_pastRhythm, .inl (cI, 30, .inl u.2.2.2))] t.heap ∧ va_D A [(q0, .inr (7, [.int v_beats, .int u.1, .int v_seedNow, .ref q_pastBeats, .ref q_pastRhythm, .int u.2.1, .ref q_imageBeats, .ref q_imageRhythm, .ref q_imageSeed, .ref q_isKept, .ref q_heardBeat, .ref q_heardStruck, .int v_heard, .ref q_text, .int v_textLong, .int v_faultAt, .int v_readBeats, .int v_readRhythm, .ref q_tilings, .int v_tilingMany, .int v_tiledBeats, .int v_tiledRhythm, .ref q_shifts, .ref q_struck, .ref q_chosen, .int v_leastSet, .int v_necklaceBy])), (q_pastBeats, .inl (cI, 30, .inl u.2.2.1)), (q_pastRhythm, .inl (cI, 30, .inl u.2.2.2))]) A) ([.ref q0, .int p1] : List Value).toArray s 0 0 A) (F0 m 31 ls [.int s0]) := by
    intro s0 v_rhythm v_undone f_pastBeats f_pastRhythm h H locs ls hP hD hS hl
    unfold wp_X10_even_j31 at h
    exact W.iret (v := s0) hx hb hr (fun t ht hW => ⟨⟨_, (v_rhythm, v_undone, f_pastBeats, f_pastRhythm), rfl, h, by rw [ht]; exact hP, hD⟩, hS.F ht⟩) hS.2.2 dX10_even_31
  have hl := lv_entry ([.ref q0, .int p1]) (n := 2) (Nat.le_of_ble_eq_true rfl)
  rw [lg_entry_eq]
  generalize (lg_sl ([.ref q0, .int p1]) ++ List.replicate (2 - (lg_sl ([.ref q0, .int p1])).length) Slot.unset).toArray = ls at hl ⊢
  have hl : lv_has ls 2 [(0, .ref q0), (1, .int p1)] := hl
  refine lv_iload_n hx hb dX10_even_0 rfl (lv_at hl 1 rfl) ?_
  refine lv_i2l (v := (p1.toInt64)) hx hb dX10_even_1 rfl ?_
  refine lv_lconst (v := 0) hx hb dX10_even_2 (by decide) ?_
  refine lv_aload_n hx hb dX10_even_3 rfl (lv_at hl 0 rfl) ?_
  refine va_get (D := (dC, dI)) (ci := 7) (v := .int v_beats) (C := RX10) (T := TX10) (N := 27) hx hb hts iX10_even_X10 hown hK hP 0 rfl rfl 0 (by decide) (hts (.fieldLink RX10 7 "TilingBeatsModel" "beats" "I") (by decide +kernel)) (fun _ h9 => h9) rfl dX10_even_4 ?_
  refine lv_i2l (v := (v_beats.toInt64)) hx hb dX10_even_7 rfl ?_
  refine vs_calli (va_runS (As := [.long (p1.toInt64), .long 0, .long (v_beats.toInt64)]) (rest := []) ⟨hx, hb, hml, hown, hts⟩ (c_X10_in l (p1.toInt64) 0 (v_beats.toInt64) _ h) (va_cwS 3 hts gX10_even_X10_in rfl rfl rfl (by decide +kernel) ⟨Nat.le_of_ble_eq_true rfl, Nat.le_of_ble_eq_true rfl⟩) ⟨fun a U g mk q => ⟨q.1, nW_call q.2⟩, fun U hU hW => ⟨rfl, nW_warm hW hN⟩⟩ rfl rfl hl.1 rfl (lv_room (Nat.le_of_ble_eq_true rfl)) dX10_even_8 ⟨Nat.le_of_ble_eq_true rfl, Nat.le_of_ble_eq_true rfl⟩) (fun r1 h => ?_)
  refine lv_if_eq (tgt := 29) hx hb dX10_even_11 (by decide) (fun c2 => ?_) (fun c2 => ?_)
  · replace h := h.1 c2
    refine lv_ldc (v := (-1000000002)) hx hb hown (hts (.constant RX10 75 (-1000000002)) (by decide +kernel)) dX10_even_29 ?_
    exact w31 (-1000000002) v_rhythm v_undone f_pastBeats f_pastRhythm h s.heap [] ls hP hD hS (lv_sub hl [] rfl)
  · replace h := h.2 c2
    refine lv_aload_n hx hb dX10_even_14 rfl (lv_at hl 0 rfl) ?_
    refine lv_iload_n hx hb dX10_even_15 rfl (lv_at hl 1 rfl) ?_
    refine lv_aload_n hx hb dX10_even_16 rfl (lv_at hl 0 rfl) ?_
    refine va_get (D := (dC, dI)) (ci := 7) (v := .int v_beats) (C := RX10) (T := TX10) (N := 27) hx hb hts iX10_even_X10 hown hK hP 0 rfl rfl 0 (by decide) (hts (.fieldLink RX10 7 "TilingBeatsModel" "beats" "I") (by decide +kernel)) (fun _ h9 => h9) rfl dX10_even_17 ?_
    refine vs_calli (va_runS (As := [.int p1, .int v_beats]) (rest := [.ref q0]) ⟨hx, hb, hml, hown, hts⟩ (c_X10_evenOf l p1 v_beats _ h) (va_cwS 2 hts gX10_even_X10_evenOf rfl rfl rfl (by decide +kernel) ⟨Nat.le_of_ble_eq_true rfl, Nat.le_of_ble_eq_true rfl⟩) ⟨fun a U g mk q => ⟨q.1, nW_call q.2⟩, fun U hU hW => ⟨rfl, nW_warm hW hN⟩⟩ rfl rfl hl.1 rfl (lv_room (Nat.le_of_ble_eq_true rfl)) dX10_even_20 ⟨Nat.le_of_ble_eq_true rfl, Nat.le_of_ble_eq_true rfl⟩) (fun r3 h => ?_)
    have hPc := hP.sub (ws' := [(q0, .inr (7, [.int v_beats, .int v_rhythm, .int v_seedNow, .ref q_pastBeats, .ref q_pastRhythm, .int v_undone, .ref q_imageBeats, .ref q_imageRhythm, .ref q_imageSeed, .ref q_isKept, .ref q_heardBeat, .ref q_heardStruck, .int v_heard, .ref q_text, .int v_textLong, .int v_faultAt, .int v_readBeats, .int v_readRhythm, .ref q_tilings, .int v_tilingMany, .int v_tiledBeats, .int v_tiledRhythm, .ref q_shifts, .ref q_struck, .ref q_chosen, .int v_leastSet, .int v_necklaceBy])), (q_pastBeats, .inl (cI, 30, .inl f_pastBeats)), (q_pastRhythm, .inl (cI, 30, .inl f_pastRhythm))]) [0, 1, 2] rfl
    have hDc := hD.sub (ws' := [(q0, .inr (7, [.int v_beats, .int v_rhythm, .int v_seedNow, .ref q_pastBeats, .ref q_pastRhythm, .int v_undone, .ref q_imageBeats, .ref q_imageRhythm, .ref q_imageSeed, .ref q_isKept, .ref q_heardBeat, .ref q_heardStruck, .int v_heard, .ref q_text, .int v_textLong, .int v_faultAt, .int v_readBeats, .int v_readRhythm, .ref q_tilings, .int v_tilingMany, .int v_tiledBeats, .int v_tiledRhythm, .ref q_shifts, .ref q_struck, .ref q_chosen, .int v_leastSet, .int v_necklaceBy])), (q_pastBeats, .inl (cI, 30, .inl f_pastBeats)), (q_pastRhythm, .inl (cI, 30, .inl f_pastRhythm))]) [0, 1, 2] (by decide) rfl
    have hFc := va_free (wc := [(q0, .inr (7, [.int v_beats, .int v_rhythm, .int v_seedNow, .ref q_pastBeats, .ref q_pastRhythm, .int v_undone, .ref q_imageBeats, .ref q_imageRhythm, .ref q_imageSeed, .ref q_isKept, .ref q_heardBeat, .ref q_heardStruck, .int v_heard, .ref q_text, .int v_textLong, .int v_faultAt, .int v_readBeats, .int v_readRhythm, .ref q_tilings, .int v_tilingMany, .int v_tiledBeats, .int v_tiledRhythm, .ref q_shifts, .ref q_struck, .ref q_chosen, .int v_leastSet, .int v_necklaceBy])), (q_pastBeats, .inl (cI, 30, .inl f_pastBeats)), (q_pastRhythm, .inl (cI, 30, .inl f_pastRhythm))]) hD hS hA [0, 1, 2] rfl
    refine va_calli (va_runV (As := [.int r3]) (rest := []) ⟨hx, hb, hml, hown, hts⟩ (c_X10_becomes l dC dI cI cZ q0 q_pastBeats q_pastRhythm q_imageBeats q_imageRhythm q_imageSeed q_isKept q_heardBeat q_heardStruck q_text q_tilings q_shifts q_struck q_chosen s.heap.size v_beats v_rhythm v_seedNow v_undone v_heard v_textLong v_faultAt v_readBeats v_readRhythm v_tilingMany v_tiledBeats v_tiledRhythm v_leastSet v_necklaceBy f_pastBeats f_pastRhythm r3 _ h) (cwV 1 hts gX10_even_X10_becomes rfl rfl rfl (by decide +kernel) ⟨Nat.le_of_ble_eq_true rfl, Nat.le_of_ble_eq_true rfl⟩) ⟨fun a U g mk q => ⟨q.1, q.2.1, q.2.2.1, va_K.moved (u := U) (U := U.calling g mk a) (Vm.Alike.refl U.vm) q.2.2.2.1, q.2.2.2.2.1, nW_call q.2.2.2.2.2⟩, va_recv hK hPc (ci := 7) (q0 := 0) rfl rfl, fun U hU hW => ⟨rfl, by rw [hU], by rw [hU]; exact hPc, va_K.moved hW.alike hK, hDc.weaken (fun _ _ _ _ => trivial), nW_warm hW hN⟩⟩ rfl rfl hl.1 rfl (lv_room (Nat.le_of_ble_eq_true rfl)) dX10_even_23 ⟨Nat.le_of_ble_eq_true rfl, Nat.le_of_ble_eq_true rfl⟩) hS (fun q _ h => hFc q h) hFc (fun r4 u t H1 locs ht hvm hw hB hz1 hk1 hS => ?_)
    obtain ⟨u5, u6, u7, u8⟩ := u
    obtain ⟨hP1, hD1⟩ := hB
    rw [ht] at hP1
    replace h := hw
    try dsimp only at h
    obtain ⟨hP, hD⟩ := va_join (wr := []) (w1 := [(q0, .inr (7, [.int v_beats, .int u5, .int v_seedNow, .ref q_pastBeats, .ref q_pastRhythm, .int u6, .ref q_imageBeats, .ref q_imageRhythm, .ref q_imageSeed, .ref q_isKept, .ref q_heardBeat, .ref q_heardStruck, .int v_heard, .ref q_text, .int v_textLong, .int v_faultAt, .int v_readBeats, .int v_readRhythm, .ref q_tilings, .int v_tilingMany, .int v_tiledBeats, .int v_tiledRhythm, .ref q_shifts, .ref q_struck, .ref q_chosen, .int v_leastSet, .int v_necklaceBy])), (q_pastBeats, .inl (cI, 30, .inl u7)), (q_pastRhythm, .inl (cI, 30, .inl u8))]) hP hD [0, 1, 2] [] rfl rfl (by decide) (by decide) hk1 hFc hP1 hD1
    clear hP1 hD1 hFc hDc hPc hk1 hz1 hw hvm ht
    generalize H1 = H at hP hS ⊢
    have hP : va_P (dC, dI) vwCl [(q0, .inr (7, [.int v_beats, .int u5, .int v_seedNow, .ref q_pastBeats, .ref q_pastRhythm, .int u6, .ref q_imageBeats, .ref q_imageRhythm, .ref q_imageSeed, .ref q_isKept, .ref q_heardBeat, .ref q_heardStruck, .int v_heard, .ref q_text, .int v_textLong, .int v_faultAt, .int v_readBeats, .int v_readRhythm, .ref q_tilings, .int v_tilingMany, .int v_tiledBeats, .int v_tiledRhythm, .ref q_shifts, .ref q_struck, .ref q_chosen, .int v_leastSet, .int v_necklaceBy])), (q_pastBeats, .inl (cI, 30, .inl u7)), (q_pastRhythm, .inl (cI, 30, .inl u8))] H := hP.sub [0, 1, 2] rfl
    have hD : va_D A [(q0, .inr (7, [.int v_beats, .int u5, .int v_seedNow, .ref q_pastBeats, .ref q_pastRhythm, .int u6, .ref q_imageBeats, .ref q_imageRhythm, .ref q_imageSeed, .ref q_isKept, .ref q_heardBeat, .ref q_heardStruck, .int v_heard, .ref q_text, .int v_textLong, .int v_faultAt, .int v_readBeats, .int v_readRhythm, .ref q_tilings, .int v_tilingMany, .int v_tiledBeats, .int v_tiledRhythm, .ref q_shifts, .ref q_struck, .ref q_chosen, .int v_leastSet, .int v_necklaceBy])), (q_pastBeats, .inl (cI, 30, .inl u7)), (q_pastRhythm, .inl (cI, 30, .inl u8))] := hD.sub [0, 1, 2] (by decide) rfl
    refine lv_goto (tgt := 31) hx hb dX10_even_26 (by decide) ?_
    exact w31 r4 u5 u6 u7 u8 h H locs ls hP hD hS (lv_sub hl [] rfl)

def wp_X10_turn_j33 (v_beats : Int32) (Q : Int32 → Int32 → Int32 → (Nat → Int32) → (Nat → Int32) → Prop) (s0 : Int32) (v_rhythm : Int32) (v_undone : Int32) (f_pastBeats : (Nat → Int32)) (f_pastRhythm : (Nat → Int32)) : Prop := Q s0 v_rhythm v_undone f_pastBeats f_pastRhythm
def wp_X10_turn (v_beats : Int32) (v_rhythm : Int32) (v_undone : Int32) (f_pastBeats : (Nat → Int32)) (f_pastRhythm : (Nat → Int32)) (p1 : Int32) (Q : Int32 → Int32 → Int32 → (Nat → Int32) → (Nat → Int32) → Prop) : Prop := wp_X10_in (p1.toInt64) 0 23 fun (r1 : Int32) => (r1 = 0 → (wp_X10_turn_j33 v_beats Q (-1000000002) v_rhythm v_undone f_pastBeats f_pastRhythm)) ∧ (¬ r1 = 0 → (wp_X10_moved v_rhythm p1 v_beats fun (r3 : Int32) => wp_X10_becomes v_beats v_rhythm v_undone f_pastBeats f_pastRhythm r3 fun (r4 : Int32) (u5 : Int32) (u6 : Int32) (u7 : (Nat → Int32)) (u8 : (Nat → Int32)) => wp_X10_turn_j33 v_beats Q r4 u5 u6 u7 u8))
abbrev rmX10_turn : Room := { frames := 2, cells := 0, slots := 0, locals := 43 }
set_option maxRecDepth 20000 in
theorem iX10_turn_X10 : ∀ w ∈ wsX100, w ∈ wsX10_turn := by decide +kernel
set_option maxHeartbeats 4000000 in
set_option maxRecDepth 100000 in
theorem c_X10_turn (l : Launch) (dC : Nat → ClassId) (dI : Nat → Nat → Nat) (cI cZ : ClassId) (q0 q_pastBeats q_pastRhythm q_imageBeats q_imageRhythm q_imageSeed q_isKept q_heardBeat q_heardStruck q_text q_tilings q_shifts q_struck q_chosen : Nat) (sz : Nat) (v_beats : Int32) (v_rhythm : Int32) (v_seedNow : Int32) (v_undone : Int32) (v_heard : Int32) (v_textLong : Int32) (v_faultAt : Int32) (v_readBeats : Int32) (v_readRhythm : Int32) (v_tilingMany : Int32) (v_tiledBeats : Int32) (v_tiledRhythm : Int32) (v_leastSet : Int32) (v_necklaceBy : Int32) (f_pastBeats : (Nat → Int32)) (f_pastRhythm : (Nat → Int32)) (p1 : Int32) (Q : Int32 → Int32 → Int32 → (Nat → Int32) → (Nat → Int32) → Prop) (h : wp_X10_turn v_beats v_rhythm v_undone f_pastBeats f_pastRhythm p1 Q) : Met l yX10_turn wsX10_turn (rmX10_turn) (va_Pc [.ref q0, .int p1] (fun U => U.heap.size = sz ∧ va_P (dC, dI) vwCl [(q0, .inr (7, [.int v_beats, .int v_rhythm, .int v_seedNow, .ref q_pastBeats, .ref q_pastRhythm, .int v_undone, .ref q_imageBeats, .ref q_imageRhythm, .ref q_imageSeed, .ref q_isKept, .ref q_heardBeat, .ref q_heardStruck, .int v_heard, .ref q_text, .int v_textLong, .int v_faultAt, .int v_readBeats, .int v_readRhythm, .ref q_tilings, .int v_tilingMany, .int v_tiledBeats, .int v_tiledRhythm, .ref q_shifts, .ref q_struck, .ref q_chosen, .int v_leastSet, .int v_necklaceBy])), (q_pastBeats, .inl (cI, 30, .inl f_pastBeats)), (q_pastRhythm, .inl (cI, 30, .inl f_pastRhythm))] U.heap ∧ va_K (dC, dI) vwCl (tyZ cI cZ) U ∧ va_D (fun _ => True) [(q0, .inr (7, [.int v_beats, .int v_rhythm, .int v_seedNow, .ref q_pastBeats, .ref q_pastRhythm, .int v_undone, .ref q_imageBeats, .ref q_imageRhythm, .ref q_imageSeed, .ref q_isKept, .ref q_heardBeat, .ref q_heardStruck, .int v_heard, .ref q_text, .int v_textLong, .int v_faultAt, .int v_readBeats, .int v_readRhythm, .ref q_tilings, .int v_tilingMany, .int v_tiledBeats, .int v_tiledRhythm, .ref q_shifts, .ref q_struck, .ref q_chosen, .int v_leastSet, .int v_necklaceBy])), (q_pastBeats, .inl (cI, 30, .inl f_pastBeats)), (q_pastRhythm, .inl (cI, 30, .inl f_pastRhythm))] ∧ nW U)) (va_Qi (fun (r : Int32) (u : Int32 × Int32 × (Nat → Int32) × (Nat → Int32)) => Q r u.1 u.2.1 u.2.2.1 u.2.2.2) (fun (u : Int32 × Int32 × (Nat → Int32) × (Nat → Int32)) (t : State) => va_P (dC, dI) vwCl [(q0, .inr (7, [.int v_beats, .int u.1, .int v_seedNow, .ref q_pastBeats, .ref q_pastRhythm, .int u.2.1, .ref q_imageBeats, .ref q_imageRhythm, .ref q_imageSeed, .ref q_isKept, .ref q_heardBeat, .ref q_heardStruck, .int v_heard, .ref q_text, .int v_textLong, .int v_faultAt, .int v_readBeats, .int v_readRhythm, .ref q_tilings, .int v_tilingMany, .int v_tiledBeats, .int v_tiledRhythm, .ref q_shifts, .ref q_struck, .ref q_chosen, .int v_leastSet, .int v_necklaceBy])), (q_pastBeats, .inl (cI, 30, .inl u.2.2.1)), (q_pastRhythm, .inl (cI, 30, .inl u.2.2.2))] t.heap ∧ va_D (va_A [(q0, .inr (7, [.int v_beats, .int v_rhythm, .int v_seedNow, .ref q_pastBeats, .ref q_pastRhythm, .int v_undone, .ref q_imageBeats, .ref q_imageRhythm, .ref q_imageSeed, .ref q_isKept, .ref q_heardBeat, .ref q_heardStruck, .int v_heard, .ref q_text, .int v_textLong, .int v_faultAt, .int v_readBeats, .int v_readRhythm, .ref q_tilings, .int v_tilingMany, .int v_tiledBeats, .int v_tiledRhythm, .ref q_shifts, .ref q_struck, .ref q_chosen, .int v_leastSet, .int v_necklaceBy])), (q_pastBeats, .inl (cI, 30, .inl f_pastBeats)), (q_pastRhythm, .inl (cI, 30, .inl f_pastRhythm))] sz) [(q0, .inr (7, [.int v_beats, .int u.1, .int v_seedNow, .ref q_pastBeats, .ref q_pastRhythm, .int u.2.1, .ref q_imageBeats, .ref q_imageRhythm, .ref q_imageSeed, .ref q_isKept, .ref q_heardBeat, .ref q_heardStruck, .int v_heard, .ref q_text, .int v_textLong, .int v_faultAt, .int v_readBeats, .int v_readRhythm, .ref q_tilings, .int v_tilingMany, .int v_tiledBeats, .int v_tiledRhythm, .ref q_shifts, .ref q_struck, .ref q_chosen, .int v_leastSet, .int v_necklaceBy])), (q_pastBeats, .inl (cI, 30, .inl u.2.2.1)), (q_pastRhythm, .inl (cI, 30, .inl u.2.2.2))]) (va_A [(q0, .inr (7, [.int v_beats, .int v_rhythm, .int v_seedNow, .ref q_pastBeats, .ref q_pastRhythm, .int v_undone, .ref q_imageBeats, .ref q_imageRhythm, .ref q_imageSeed, .ref q_isKept, .ref q_heardBeat, .ref q_heardStruck, .int v_heard, .ref q_text, .int v_textLong, .int v_faultAt, .int v_readBeats, .int v_readRhythm, .ref q_tilings, .int v_tilingMany, .int v_tiledBeats, .int v_tiledRhythm, .ref q_shifts, .ref q_struck, .ref q_chosen, .int v_leastSet, .int v_necklaceBy])), (q_pastBeats, .inl (cI, 30, .inl f_pastBeats)), (q_pastRhythm, .inl (cI, 30, .inl f_pastRhythm))] sz)) 0 0 (va_A [(q0, .inr (7, [.int v_beats, .int v_rhythm, .int v_seedNow, .ref q_pastBeats, .ref q_pastRhythm, .int v_undone, .ref q_imageBeats, .ref q_imageRhythm, .ref q_imageSeed, .ref q_isKept, .ref q_heardBeat, .ref q_heardStruck, .int v_heard, .ref q_text, .int v_textLong, .int v_faultAt, .int v_readBeats, .int v_readRhythm, .ref q_tilings, .int v_tilingMany, .int v_tiledBeats, .int v_tiledRhythm, .ref q_shifts, .ref q_struck, .ref q_chosen, .int v_leastSet, .int v_necklaceBy])), (q_pastBeats, .inl (cI, 30, .inl f_pastBeats)), (q_pastRhythm, .inl (cI, 30, .inl f_pastRhythm))] sz) := by
  unfold wp_X10_turn at h
  refine Met.ofW (cc := cX10_turn) (maxL := 2) (ret := (some .int)) (by decide) rfl ?_
  intro p e s m args below meth c s₁ B hml hv
  obtain ⟨rfl, hsz, hP, hK, hD0, hN⟩ := hv
  have hx := B.exec
  have hb := B.bytes
  have hr := B.returns
  have hts := atoms_spec (ws := wsX10_turn) B.pre
  have hown : s.vm.findClass RX10 = some m.cls := findClass_of_methodNamed B.named
  have hlocks := B.notSynchronized
  subst hsz
  have hD := hD0.self (sz := s.heap.size)
  generalize hAe : va_A [(q0, .inr (7, [.int v_beats, .int v_rhythm, .int v_seedNow, .ref q_pastBeats, .ref q_pastRhythm, .int v_undone, .ref q_imageBeats, .ref q_imageRhythm, .ref q_imageSeed, .ref q_isKept, .ref q_heardBeat, .ref q_heardStruck, .int v_heard, .ref q_text, .int v_textLong, .int v_faultAt, .int v_readBeats, .int v_readRhythm, .ref q_tilings, .int v_tilingMany, .int v_tiledBeats, .int v_tiledRhythm, .ref q_shifts, .ref q_struck, .ref q_chosen, .int v_leastSet, .int v_necklaceBy])), (q_pastBeats, .inl (cI, 30, .inl f_pastBeats)), (q_pastRhythm, .inl (cI, 30, .inl f_pastRhythm))] s.heap.size = A at hD ⊢
  have hA : ∀ q : Nat, s.heap.size ≤ q → A q := fun q h => by rw [← hAe]; exact Or.inr h
  clear hAe
  have hS : va_S A s.heap s.heap [] := va_S.rf
  have w33 : ∀ (s0 : Int32) (v_rhythm : Int32) (v_undone : Int32) (f_pastBeats : (Nat → Int32)) (f_pastRhythm : (Nat → Int32)), wp_X10_turn_j33 v_beats Q s0 v_rhythm v_undone f_pastBeats f_pastRhythm → ∀ (H : Heap) (locs : List Loc) (ls : Array Slot), va_P (dC, dI) vwCl [(q0, .inr (7, [.int v_beats, .int v_rhythm, .int v_seedNow, .ref q_pastBeats, .ref q_pastRhythm, .int v_undone, .ref q_imageBeats, .ref q_imageRhythm, .ref q_imageSeed, .ref q_isKept, .ref q_heardBeat, .ref q_heardStruck, .int v_heard, .ref q_text, .int v_textLong, .int v_faultAt, .int v_readBeats, .int v_readRhythm, .ref q_tilings, .int v_tilingMany, .int v_tiledBeats, .int v_tiledRhythm, .ref q_shifts, .ref q_struck, .ref q_chosen, .int v_leastSet, .int v_necklaceBy])), (q_pastBeats, .inl (cI, 30, .inl f_pastBeats)), (q_pastRhythm, .inl (cI, 30, .inl f_pastRhythm))] H → va_D A [(q0, .inr (7, [.int v_beats, .int v_rhythm, .int v_seedNow, .ref q_pastBeats, .ref q_pastRhythm, .int v_undone, .ref q_imageBeats, .ref q_imageRhythm, .ref q_imageSeed, .ref q_isKept, .ref q_heardBeat, .ref q_heardStruck, .int v_heard, .ref q_text, .int v_textLong, .int v_faultAt, .int v_readBeats, .int v_readRhythm, .ref q_tilings, .int v_tilingMany, .int v_tiledBeats, .int v_tiledRhythm, .ref q_shifts, .ref q_struck, .ref q_chosen, .int v_leastSet, .int v_necklaceBy])), (q_pastBeats, .inl (cI, 30, .inl f_pastBeats)), (q_pastRhythm, .inl (cI, 30, .inl f_pastRhythm))] → va_S A s.heap H locs → lv_has ls 2 [] → W p l e (headSpec wsX10_turn (rmX10_turn)).room s m ([.ref q0, .int p1] : List Value).toArray below meth c H locs 0 0 (MQ below (va_Qi (fun (r : Int32) (u : Int32 × Int32 × (Nat → Int32) × (Nat → Int32)) => Q r u.1 u.2.1 u.2.2.1 u.2.2.2) (fun (u : Int32 × Int32 × (Nat → Int32) × (Nat → Int32)) (t : State) => va_P (dC, dI) vwCl [(q0, .inr (7, [.int v_beats, .int u.1, .int v_seedNow, .ref q_pastBeats, .ref q_pastRhythm, .int u.2.1, .ref q_imageBeats, .ref q_imageRhythm, .ref q_imageSeed, .ref q_isKept, .ref q_heardBeat, .ref q_heardStruck, .int v_heard, .ref q_text, .int v_textLong, .int v_faultAt, .int v_readBeats, .int v_readRhythm, .ref q_tilings, .int v_tilingMany, .int v_tiledBeats, .int v_tiledRhythm, .ref q_shifts, .ref q_struck, .ref q_chosen, .int v_leastSet, .int v_necklaceBy])), (q_pastBeats, .inl (cI, 30, .inl u.2.2.1)), (q_pastRhythm, .inl (cI, 30, .inl u.2.2.2))] t.heap ∧ va_D A [(q0, .inr (7, [.int v_beats, .int u.1, .int v_seedNow, .ref q_pastBeats, .ref q_pastRhythm, .int u.2.1, .ref q_imageBeats, .ref q_imageRhythm, .ref q_imageSeed, .ref q_isKept, .ref q_heardBeat, .ref q_heardStruck, .int v_heard, .ref q_text, .int v_textLong, .int v_faultAt, .int v_readBeats, .int v_readRhythm, .ref q_tilings, .int v_tilingMany, .int v_tiledBeats, .int v_tiledRhythm, .ref q_shifts, .ref q_struck, .ref q_chosen, .int v_leastSet, .int v_necklaceBy])), (q_pastBeats, .inl (cI, 30, .inl u.2.2.1)), (q_pastRhythm, .inl (cI, 30, .inl u.2.2.2))]) A) ([.ref q0, .int p1] : List Value).toArray s 0 0 A) (F0 m 33 ls [.int s0]) := by
    intro s0 v_rhythm v_undone f_pastBeats f_pastRhythm h H locs ls hP hD hS hl
    unfold wp_X10_turn_j33 at h
    exact W.iret (v := s0) hx hb hr (fun t ht hW => ⟨⟨_, (v_rhythm, v_undone, f_pastBeats, f_pastRhythm), rfl, h, by rw [ht]; exact hP, hD⟩, hS.F ht⟩) hS.2.2 dX10_turn_33
  have hl := lv_entry ([.ref q0, .int p1]) (n := 2) (Nat.le_of_ble_eq_true rfl)
  rw [lg_entry_eq]
  generalize (lg_sl ([.ref q0, .int p1]) ++ List.replicate (2 - (lg_sl ([.ref q0, .int p1])).length) Slot.unset).toArray = ls at hl ⊢
  have hl : lv_has ls 2 [(0, .ref q0), (1, .int p1)] := hl
  refine lv_iload_n hx hb dX10_turn_0 rfl (lv_at hl 1 rfl) ?_
  refine lv_i2l (v := (p1.toInt64)) hx hb dX10_turn_1 rfl ?_
  refine lv_lconst (v := 0) hx hb dX10_turn_2 (by decide) ?_
  refine lv_ldc2 (v := 23) hx hb hown (hts (.constantLong RX10 189 (23)) (by decide +kernel)) dX10_turn_3 ?_
  refine vs_calli (va_runS (As := [.long (p1.toInt64), .long 0, .long 23]) (rest := []) ⟨hx, hb, hml, hown, hts⟩ (c_X10_in l (p1.toInt64) 0 23 _ h) (va_cwS 3 hts gX10_turn_X10_in rfl rfl rfl (by decide +kernel) ⟨Nat.le_of_ble_eq_true rfl, Nat.le_of_ble_eq_true rfl⟩) ⟨fun a U g mk q => ⟨q.1, nW_call q.2⟩, fun U hU hW => ⟨rfl, nW_warm hW hN⟩⟩ rfl rfl hl.1 rfl (lv_room (Nat.le_of_ble_eq_true rfl)) dX10_turn_6 ⟨Nat.le_of_ble_eq_true rfl, Nat.le_of_ble_eq_true rfl⟩) (fun r1 h => ?_)
  refine lv_if_eq (tgt := 31) hx hb dX10_turn_9 (by decide) (fun c2 => ?_) (fun c2 => ?_)
  · replace h := h.1 c2
    refine lv_ldc (v := (-1000000002)) hx hb hown (hts (.constant RX10 75 (-1000000002)) (by decide +kernel)) dX10_turn_31 ?_
    exact w33 (-1000000002) v_rhythm v_undone f_pastBeats f_pastRhythm h s.heap [] ls hP hD hS (lv_sub hl [] rfl)
  · replace h := h.2 c2
    refine lv_aload_n hx hb dX10_turn_12 rfl (lv_at hl 0 rfl) ?_
    refine lv_aload_n hx hb dX10_turn_13 rfl (lv_at hl 0 rfl) ?_
    refine va_get (D := (dC, dI)) (ci := 7) (v := .int v_rhythm) (C := RX10) (T := TX10) (N := 27) hx hb hts iX10_turn_X10 hown hK hP 0 rfl rfl 1 (by decide) (hts (.fieldLink RX10 101 "TilingBeatsModel" "rhythm" "I") (by decide +kernel)) (fun _ h9 => h9) rfl dX10_turn_14 ?_
    refine lv_iload_n hx hb dX10_turn_17 rfl (lv_at hl 1 rfl) ?_
    refine lv_aload_n hx hb dX10_turn_18 rfl (lv_at hl 0 rfl) ?_
    refine va_get (D := (dC, dI)) (ci := 7) (v := .int v_beats) (C := RX10) (T := TX10) (N := 27) hx hb hts iX10_turn_X10 hown hK hP 0 rfl rfl 0 (by decide) (hts (.fieldLink RX10 7 "TilingBeatsModel" "beats" "I") (by decide +kernel)) (fun _ h9 => h9) rfl dX10_turn_19 ?_
    refine vs_calli (va_runS (As := [.int v_rhythm, .int p1, .int v_beats]) (rest := [.ref q0]) ⟨hx, hb, hml, hown, hts⟩ (c_X10_moved l v_rhythm p1 v_beats _ h) (va_cwS 3 hts gX10_turn_X10_moved rfl rfl rfl (by decide +kernel) ⟨Nat.le_of_ble_eq_true rfl, Nat.le_of_ble_eq_true rfl⟩) ⟨fun a U g mk q => ⟨q.1, nW_call q.2⟩, fun U hU hW => ⟨rfl, nW_warm hW hN⟩⟩ rfl rfl hl.1 rfl (lv_room (Nat.le_of_ble_eq_true rfl)) dX10_turn_22 ⟨Nat.le_of_ble_eq_true rfl, Nat.le_of_ble_eq_true rfl⟩) (fun r3 h => ?_)
    have hPc := hP.sub (ws' := [(q0, .inr (7, [.int v_beats, .int v_rhythm, .int v_seedNow, .ref q_pastBeats, .ref q_pastRhythm, .int v_undone, .ref q_imageBeats, .ref q_imageRhythm, .ref q_imageSeed, .ref q_isKept, .ref q_heardBeat, .ref q_heardStruck, .int v_heard, .ref q_text, .int v_textLong, .int v_faultAt, .int v_readBeats, .int v_readRhythm, .ref q_tilings, .int v_tilingMany, .int v_tiledBeats, .int v_tiledRhythm, .ref q_shifts, .ref q_struck, .ref q_chosen, .int v_leastSet, .int v_necklaceBy])), (q_pastBeats, .inl (cI, 30, .inl f_pastBeats)), (q_pastRhythm, .inl (cI, 30, .inl f_pastRhythm))]) [0, 1, 2] rfl
    have hDc := hD.sub (ws' := [(q0, .inr (7, [.int v_beats, .int v_rhythm, .int v_seedNow, .ref q_pastBeats, .ref q_pastRhythm, .int v_undone, .ref q_imageBeats, .ref q_imageRhythm, .ref q_imageSeed, .ref q_isKept, .ref q_heardBeat, .ref q_heardStruck, .int v_heard, .ref q_text, .int v_textLong, .int v_faultAt, .int v_readBeats, .int v_readRhythm, .ref q_tilings, .int v_tilingMany, .int v_tiledBeats, .int v_tiledRhythm, .ref q_shifts, .ref q_struck, .ref q_chosen, .int v_leastSet, .int v_necklaceBy])), (q_pastBeats, .inl (cI, 30, .inl f_pastBeats)), (q_pastRhythm, .inl (cI, 30, .inl f_pastRhythm))]) [0, 1, 2] (by decide) rfl
    have hFc := va_free (wc := [(q0, .inr (7, [.int v_beats, .int v_rhythm, .int v_seedNow, .ref q_pastBeats, .ref q_pastRhythm, .int v_undone, .ref q_imageBeats, .ref q_imageRhythm, .ref q_imageSeed, .ref q_isKept, .ref q_heardBeat, .ref q_heardStruck, .int v_heard, .ref q_text, .int v_textLong, .int v_faultAt, .int v_readBeats, .int v_readRhythm, .ref q_tilings, .int v_tilingMany, .int v_tiledBeats, .int v_tiledRhythm, .ref q_shifts, .ref q_struck, .ref q_chosen, .int v_leastSet, .int v_necklaceBy])), (q_pastBeats, .inl (cI, 30, .inl f_pastBeats)), (q_pastRhythm, .inl (cI, 30, .inl f_pastRhythm))]) hD hS hA [0, 1, 2] rfl
    refine va_calli (va_runV (As := [.int r3]) (rest := []) ⟨hx, hb, hml, hown, hts⟩ (c_X10_becomes l dC dI cI cZ q0 q_pastBeats q_pastRhythm q_imageBeats q_imageRhythm q_imageSeed q_isKept q_heardBeat q_heardStruck q_text q_tilings q_shifts q_struck q_chosen s.heap.size v_beats v_rhythm v_seedNow v_undone v_heard v_textLong v_faultAt v_readBeats v_readRhythm v_tilingMany v_tiledBeats v_tiledRhythm v_leastSet v_necklaceBy f_pastBeats f_pastRhythm r3 _ h) (cwV 1 hts gX10_turn_X10_becomes rfl rfl rfl (by decide +kernel) ⟨Nat.le_of_ble_eq_true rfl, Nat.le_of_ble_eq_true rfl⟩) ⟨fun a U g mk q => ⟨q.1, q.2.1, q.2.2.1, va_K.moved (u := U) (U := U.calling g mk a) (Vm.Alike.refl U.vm) q.2.2.2.1, q.2.2.2.2.1, nW_call q.2.2.2.2.2⟩, va_recv hK hPc (ci := 7) (q0 := 0) rfl rfl, fun U hU hW => ⟨rfl, by rw [hU], by rw [hU]; exact hPc, va_K.moved hW.alike hK, hDc.weaken (fun _ _ _ _ => trivial), nW_warm hW hN⟩⟩ rfl rfl hl.1 rfl (lv_room (Nat.le_of_ble_eq_true rfl)) dX10_turn_25 ⟨Nat.le_of_ble_eq_true rfl, Nat.le_of_ble_eq_true rfl⟩) hS (fun q _ h => hFc q h) hFc (fun r4 u t H1 locs ht hvm hw hB hz1 hk1 hS => ?_)
    obtain ⟨u5, u6, u7, u8⟩ := u
    obtain ⟨hP1, hD1⟩ := hB
    rw [ht] at hP1
    replace h := hw
    try dsimp only at h
    obtain ⟨hP, hD⟩ := va_join (wr := []) (w1 := [(q0, .inr (7, [.int v_beats, .int u5, .int v_seedNow, .ref q_pastBeats, .ref q_pastRhythm, .int u6, .ref q_imageBeats, .ref q_imageRhythm, .ref q_imageSeed, .ref q_isKept, .ref q_heardBeat, .ref q_heardStruck, .int v_heard, .ref q_text, .int v_textLong, .int v_faultAt, .int v_readBeats, .int v_readRhythm, .ref q_tilings, .int v_tilingMany, .int v_tiledBeats, .int v_tiledRhythm, .ref q_shifts, .ref q_struck, .ref q_chosen, .int v_leastSet, .int v_necklaceBy])), (q_pastBeats, .inl (cI, 30, .inl u7)), (q_pastRhythm, .inl (cI, 30, .inl u8))]) hP hD [0, 1, 2] [] rfl rfl (by decide) (by decide) hk1 hFc hP1 hD1
    clear hP1 hD1 hFc hDc hPc hk1 hz1 hw hvm ht
    generalize H1 = H at hP hS ⊢
    have hP : va_P (dC, dI) vwCl [(q0, .inr (7, [.int v_beats, .int u5, .int v_seedNow, .ref q_pastBeats, .ref q_pastRhythm, .int u6, .ref q_imageBeats, .ref q_imageRhythm, .ref q_imageSeed, .ref q_isKept, .ref q_heardBeat, .ref q_heardStruck, .int v_heard, .ref q_text, .int v_textLong, .int v_faultAt, .int v_readBeats, .int v_readRhythm, .ref q_tilings, .int v_tilingMany, .int v_tiledBeats, .int v_tiledRhythm, .ref q_shifts, .ref q_struck, .ref q_chosen, .int v_leastSet, .int v_necklaceBy])), (q_pastBeats, .inl (cI, 30, .inl u7)), (q_pastRhythm, .inl (cI, 30, .inl u8))] H := hP.sub [0, 1, 2] rfl
    have hD : va_D A [(q0, .inr (7, [.int v_beats, .int u5, .int v_seedNow, .ref q_pastBeats, .ref q_pastRhythm, .int u6, .ref q_imageBeats, .ref q_imageRhythm, .ref q_imageSeed, .ref q_isKept, .ref q_heardBeat, .ref q_heardStruck, .int v_heard, .ref q_text, .int v_textLong, .int v_faultAt, .int v_readBeats, .int v_readRhythm, .ref q_tilings, .int v_tilingMany, .int v_tiledBeats, .int v_tiledRhythm, .ref q_shifts, .ref q_struck, .ref q_chosen, .int v_leastSet, .int v_necklaceBy])), (q_pastBeats, .inl (cI, 30, .inl u7)), (q_pastRhythm, .inl (cI, 30, .inl u8))] := hD.sub [0, 1, 2] (by decide) rfl
    refine lv_goto (tgt := 33) hx hb dX10_turn_28 (by decide) ?_
    exact w33 r4 u5 u6 u7 u8 h H locs ls hP hD hS (lv_sub hl [] rfl)

def wp_X10_over (v_beats : Int32) (v_rhythm : Int32) (v_undone : Int32) (f_pastBeats : (Nat → Int32)) (f_pastRhythm : (Nat → Int32)) (Q : Int32 → Int32 → Int32 → (Nat → Int32) → (Nat → Int32) → Prop) : Prop := wp_X10_full v_beats fun (r1 : Int32) => wp_X10_becomes v_beats v_rhythm v_undone f_pastBeats f_pastRhythm (v_rhythm ^^^ r1) fun (r2 : Int32) (u3 : Int32) (u4 : Int32) (u5 : (Nat → Int32)) (u6 : (Nat → Int32)) => Q r2 u3 u4 u5 u6
abbrev rmX10_over : Room := { frames := 2, cells := 0, slots := 0, locals := 42 }
set_option maxRecDepth 20000 in
theorem iX10_over_X10 : ∀ w ∈ wsX100, w ∈ wsX10_over := by decide +kernel
set_option maxHeartbeats 4000000 in
set_option maxRecDepth 100000 in
theorem c_X10_over (l : Launch) (dC : Nat → ClassId) (dI : Nat → Nat → Nat) (cI cZ : ClassId) (q0 q_pastBeats q_pastRhythm q_imageBeats q_imageRhythm q_imageSeed q_isKept q_heardBeat q_heardStruck q_text q_tilings q_shifts q_struck q_chosen : Nat) (sz : Nat) (v_beats : Int32) (v_rhythm : Int32) (v_seedNow : Int32) (v_undone : Int32) (v_heard : Int32) (v_textLong : Int32) (v_faultAt : Int32) (v_readBeats : Int32) (v_readRhythm : Int32) (v_tilingMany : Int32) (v_tiledBeats : Int32) (v_tiledRhythm : Int32) (v_leastSet : Int32) (v_necklaceBy : Int32) (f_pastBeats : (Nat → Int32)) (f_pastRhythm : (Nat → Int32))  (Q : Int32 → Int32 → Int32 → (Nat → Int32) → (Nat → Int32) → Prop) (h : wp_X10_over v_beats v_rhythm v_undone f_pastBeats f_pastRhythm Q) : Met l yX10_over wsX10_over (rmX10_over) (va_Pc [.ref q0] (fun U => U.heap.size = sz ∧ va_P (dC, dI) vwCl [(q0, .inr (7, [.int v_beats, .int v_rhythm, .int v_seedNow, .ref q_pastBeats, .ref q_pastRhythm, .int v_undone, .ref q_imageBeats, .ref q_imageRhythm, .ref q_imageSeed, .ref q_isKept, .ref q_heardBeat, .ref q_heardStruck, .int v_heard, .ref q_text, .int v_textLong, .int v_faultAt, .int v_readBeats, .int v_readRhythm, .ref q_tilings, .int v_tilingMany, .int v_tiledBeats, .int v_tiledRhythm, .ref q_shifts, .ref q_struck, .ref q_chosen, .int v_leastSet, .int v_necklaceBy])), (q_pastBeats, .inl (cI, 30, .inl f_pastBeats)), (q_pastRhythm, .inl (cI, 30, .inl f_pastRhythm))] U.heap ∧ va_K (dC, dI) vwCl (tyZ cI cZ) U ∧ va_D (fun _ => True) [(q0, .inr (7, [.int v_beats, .int v_rhythm, .int v_seedNow, .ref q_pastBeats, .ref q_pastRhythm, .int v_undone, .ref q_imageBeats, .ref q_imageRhythm, .ref q_imageSeed, .ref q_isKept, .ref q_heardBeat, .ref q_heardStruck, .int v_heard, .ref q_text, .int v_textLong, .int v_faultAt, .int v_readBeats, .int v_readRhythm, .ref q_tilings, .int v_tilingMany, .int v_tiledBeats, .int v_tiledRhythm, .ref q_shifts, .ref q_struck, .ref q_chosen, .int v_leastSet, .int v_necklaceBy])), (q_pastBeats, .inl (cI, 30, .inl f_pastBeats)), (q_pastRhythm, .inl (cI, 30, .inl f_pastRhythm))] ∧ nW U)) (va_Qi (fun (r : Int32) (u : Int32 × Int32 × (Nat → Int32) × (Nat → Int32)) => Q r u.1 u.2.1 u.2.2.1 u.2.2.2) (fun (u : Int32 × Int32 × (Nat → Int32) × (Nat → Int32)) (t : State) => va_P (dC, dI) vwCl [(q0, .inr (7, [.int v_beats, .int u.1, .int v_seedNow, .ref q_pastBeats, .ref q_pastRhythm, .int u.2.1, .ref q_imageBeats, .ref q_imageRhythm, .ref q_imageSeed, .ref q_isKept, .ref q_heardBeat, .ref q_heardStruck, .int v_heard, .ref q_text, .int v_textLong, .int v_faultAt, .int v_readBeats, .int v_readRhythm, .ref q_tilings, .int v_tilingMany, .int v_tiledBeats, .int v_tiledRhythm, .ref q_shifts, .ref q_struck, .ref q_chosen, .int v_leastSet, .int v_necklaceBy])), (q_pastBeats, .inl (cI, 30, .inl u.2.2.1)), (q_pastRhythm, .inl (cI, 30, .inl u.2.2.2))] t.heap ∧ va_D (va_A [(q0, .inr (7, [.int v_beats, .int v_rhythm, .int v_seedNow, .ref q_pastBeats, .ref q_pastRhythm, .int v_undone, .ref q_imageBeats, .ref q_imageRhythm, .ref q_imageSeed, .ref q_isKept, .ref q_heardBeat, .ref q_heardStruck, .int v_heard, .ref q_text, .int v_textLong, .int v_faultAt, .int v_readBeats, .int v_readRhythm, .ref q_tilings, .int v_tilingMany, .int v_tiledBeats, .int v_tiledRhythm, .ref q_shifts, .ref q_struck, .ref q_chosen, .int v_leastSet, .int v_necklaceBy])), (q_pastBeats, .inl (cI, 30, .inl f_pastBeats)), (q_pastRhythm, .inl (cI, 30, .inl f_pastRhythm))] sz) [(q0, .inr (7, [.int v_beats, .int u.1, .int v_seedNow, .ref q_pastBeats, .ref q_pastRhythm, .int u.2.1, .ref q_imageBeats, .ref q_imageRhythm, .ref q_imageSeed, .ref q_isKept, .ref q_heardBeat, .ref q_heardStruck, .int v_heard, .ref q_text, .int v_textLong, .int v_faultAt, .int v_readBeats, .int v_readRhythm, .ref q_tilings, .int v_tilingMany, .int v_tiledBeats, .int v_tiledRhythm, .ref q_shifts, .ref q_struck, .ref q_chosen, .int v_leastSet, .int v_necklaceBy])), (q_pastBeats, .inl (cI, 30, .inl u.2.2.1)), (q_pastRhythm, .inl (cI, 30, .inl u.2.2.2))]) (va_A [(q0, .inr (7, [.int v_beats, .int v_rhythm, .int v_seedNow, .ref q_pastBeats, .ref q_pastRhythm, .int v_undone, .ref q_imageBeats, .ref q_imageRhythm, .ref q_imageSeed, .ref q_isKept, .ref q_heardBeat, .ref q_heardStruck, .int v_heard, .ref q_text, .int v_textLong, .int v_faultAt, .int v_readBeats, .int v_readRhythm, .ref q_tilings, .int v_tilingMany, .int v_tiledBeats, .int v_tiledRhythm, .ref q_shifts, .ref q_struck, .ref q_chosen, .int v_leastSet, .int v_necklaceBy])), (q_pastBeats, .inl (cI, 30, .inl f_pastBeats)), (q_pastRhythm, .inl (cI, 30, .inl f_pastRhythm))] sz)) 0 0 (va_A [(q0, .inr (7, [.int v_beats, .int v_rhythm, .int v_seedNow, .ref q_pastBeats, .ref q_pastRhythm, .int v_undone, .ref q_imageBeats, .ref q_imageRhythm, .ref q_imageSeed, .ref q_isKept, .ref q_heardBeat, .ref q_heardStruck, .int v_heard, .ref q_text, .int v_textLong, .int v_faultAt, .int v_readBeats, .int v_readRhythm, .ref q_tilings, .int v_tilingMany, .int v_tiledBeats, .int v_tiledRhythm, .ref q_shifts, .ref q_struck, .ref q_chosen, .int v_leastSet, .int v_necklaceBy])), (q_pastBeats, .inl (cI, 30, .inl f_pastBeats)), (q_pastRhythm, .inl (cI, 30, .inl f_pastRhythm))] sz) := by
  unfold wp_X10_over at h
  refine Met.ofW (cc := cX10_over) (maxL := 1) (ret := (some .int)) (by decide) rfl ?_
  intro p e s m args below meth c s₁ B hml hv
  obtain ⟨rfl, hsz, hP, hK, hD0, hN⟩ := hv
  have hx := B.exec
  have hb := B.bytes
  have hr := B.returns
  have hts := atoms_spec (ws := wsX10_over) B.pre
  have hown : s.vm.findClass RX10 = some m.cls := findClass_of_methodNamed B.named
  have hlocks := B.notSynchronized
  subst hsz
  have hD := hD0.self (sz := s.heap.size)
  generalize hAe : va_A [(q0, .inr (7, [.int v_beats, .int v_rhythm, .int v_seedNow, .ref q_pastBeats, .ref q_pastRhythm, .int v_undone, .ref q_imageBeats, .ref q_imageRhythm, .ref q_imageSeed, .ref q_isKept, .ref q_heardBeat, .ref q_heardStruck, .int v_heard, .ref q_text, .int v_textLong, .int v_faultAt, .int v_readBeats, .int v_readRhythm, .ref q_tilings, .int v_tilingMany, .int v_tiledBeats, .int v_tiledRhythm, .ref q_shifts, .ref q_struck, .ref q_chosen, .int v_leastSet, .int v_necklaceBy])), (q_pastBeats, .inl (cI, 30, .inl f_pastBeats)), (q_pastRhythm, .inl (cI, 30, .inl f_pastRhythm))] s.heap.size = A at hD ⊢
  have hA : ∀ q : Nat, s.heap.size ≤ q → A q := fun q h => by rw [← hAe]; exact Or.inr h
  clear hAe
  have hS : va_S A s.heap s.heap [] := va_S.rf
  have hl := lv_entry ([.ref q0]) (n := 1) (Nat.le_of_ble_eq_true rfl)
  rw [lg_entry_eq]
  generalize (lg_sl ([.ref q0]) ++ List.replicate (1 - (lg_sl ([.ref q0])).length) Slot.unset).toArray = ls at hl ⊢
  have hl : lv_has ls 1 [(0, .ref q0)] := hl
  refine lv_aload_n hx hb dX10_over_0 rfl (lv_at hl 0 rfl) ?_
  refine lv_aload_n hx hb dX10_over_1 rfl (lv_at hl 0 rfl) ?_
  refine va_get (D := (dC, dI)) (ci := 7) (v := .int v_rhythm) (C := RX10) (T := TX10) (N := 27) hx hb hts iX10_over_X10 hown hK hP 0 rfl rfl 1 (by decide) (hts (.fieldLink RX10 101 "TilingBeatsModel" "rhythm" "I") (by decide +kernel)) (fun _ h9 => h9) rfl dX10_over_2 ?_
  refine lv_aload_n hx hb dX10_over_5 rfl (lv_at hl 0 rfl) ?_
  refine va_get (D := (dC, dI)) (ci := 7) (v := .int v_beats) (C := RX10) (T := TX10) (N := 27) hx hb hts iX10_over_X10 hown hK hP 0 rfl rfl 0 (by decide) (hts (.fieldLink RX10 7 "TilingBeatsModel" "beats" "I") (by decide +kernel)) (fun _ h9 => h9) rfl dX10_over_6 ?_
  refine vs_calli (va_runS (As := [.int v_beats]) (rest := [.int v_rhythm, .ref q0]) ⟨hx, hb, hml, hown, hts⟩ (c_X10_full l v_beats _ h) (va_cwS 1 hts gX10_over_X10_full rfl rfl rfl (by decide +kernel) ⟨Nat.le_of_ble_eq_true rfl, Nat.le_of_ble_eq_true rfl⟩) ⟨fun a U g mk q => ⟨q.1, nW_call q.2⟩, fun U hU hW => ⟨rfl, nW_warm hW hN⟩⟩ rfl rfl hl.1 rfl (lv_room (Nat.le_of_ble_eq_true rfl)) dX10_over_9 ⟨Nat.le_of_ble_eq_true rfl, Nat.le_of_ble_eq_true rfl⟩) (fun r1 h => ?_)
  refine lv_ixor hx hb dX10_over_12 ?_
  have hPc := hP.sub (ws' := [(q0, .inr (7, [.int v_beats, .int v_rhythm, .int v_seedNow, .ref q_pastBeats, .ref q_pastRhythm, .int v_undone, .ref q_imageBeats, .ref q_imageRhythm, .ref q_imageSeed, .ref q_isKept, .ref q_heardBeat, .ref q_heardStruck, .int v_heard, .ref q_text, .int v_textLong, .int v_faultAt, .int v_readBeats, .int v_readRhythm, .ref q_tilings, .int v_tilingMany, .int v_tiledBeats, .int v_tiledRhythm, .ref q_shifts, .ref q_struck, .ref q_chosen, .int v_leastSet, .int v_necklaceBy])), (q_pastBeats, .inl (cI, 30, .inl f_pastBeats)), (q_pastRhythm, .inl (cI, 30, .inl f_pastRhythm))]) [0, 1, 2] rfl
  have hDc := hD.sub (ws' := [(q0, .inr (7, [.int v_beats, .int v_rhythm, .int v_seedNow, .ref q_pastBeats, .ref q_pastRhythm, .int v_undone, .ref q_imageBeats, .ref q_imageRhythm, .ref q_imageSeed, .ref q_isKept, .ref q_heardBeat, .ref q_heardStruck, .int v_heard, .ref q_text, .int v_textLong, .int v_faultAt, .int v_readBeats, .int v_readRhythm, .ref q_tilings, .int v_tilingMany, .int v_tiledBeats, .int v_tiledRhythm, .ref q_shifts, .ref q_struck, .ref q_chosen, .int v_leastSet, .int v_necklaceBy])), (q_pastBeats, .inl (cI, 30, .inl f_pastBeats)), (q_pastRhythm, .inl (cI, 30, .inl f_pastRhythm))]) [0, 1, 2] (by decide) rfl
  have hFc := va_free (wc := [(q0, .inr (7, [.int v_beats, .int v_rhythm, .int v_seedNow, .ref q_pastBeats, .ref q_pastRhythm, .int v_undone, .ref q_imageBeats, .ref q_imageRhythm, .ref q_imageSeed, .ref q_isKept, .ref q_heardBeat, .ref q_heardStruck, .int v_heard, .ref q_text, .int v_textLong, .int v_faultAt, .int v_readBeats, .int v_readRhythm, .ref q_tilings, .int v_tilingMany, .int v_tiledBeats, .int v_tiledRhythm, .ref q_shifts, .ref q_struck, .ref q_chosen, .int v_leastSet, .int v_necklaceBy])), (q_pastBeats, .inl (cI, 30, .inl f_pastBeats)), (q_pastRhythm, .inl (cI, 30, .inl f_pastRhythm))]) hD hS hA [0, 1, 2] rfl
  refine va_calli (va_runV (As := [.int (v_rhythm ^^^ r1)]) (rest := []) ⟨hx, hb, hml, hown, hts⟩ (c_X10_becomes l dC dI cI cZ q0 q_pastBeats q_pastRhythm q_imageBeats q_imageRhythm q_imageSeed q_isKept q_heardBeat q_heardStruck q_text q_tilings q_shifts q_struck q_chosen s.heap.size v_beats v_rhythm v_seedNow v_undone v_heard v_textLong v_faultAt v_readBeats v_readRhythm v_tilingMany v_tiledBeats v_tiledRhythm v_leastSet v_necklaceBy f_pastBeats f_pastRhythm (v_rhythm ^^^ r1) _ h) (cwV 1 hts gX10_over_X10_becomes rfl rfl rfl (by decide +kernel) ⟨Nat.le_of_ble_eq_true rfl, Nat.le_of_ble_eq_true rfl⟩) ⟨fun a U g mk q => ⟨q.1, q.2.1, q.2.2.1, va_K.moved (u := U) (U := U.calling g mk a) (Vm.Alike.refl U.vm) q.2.2.2.1, q.2.2.2.2.1, nW_call q.2.2.2.2.2⟩, va_recv hK hPc (ci := 7) (q0 := 0) rfl rfl, fun U hU hW => ⟨rfl, by rw [hU], by rw [hU]; exact hPc, va_K.moved hW.alike hK, hDc.weaken (fun _ _ _ _ => trivial), nW_warm hW hN⟩⟩ rfl rfl hl.1 rfl (lv_room (Nat.le_of_ble_eq_true rfl)) dX10_over_13 ⟨Nat.le_of_ble_eq_true rfl, Nat.le_of_ble_eq_true rfl⟩) hS (fun q _ h => hFc q h) hFc (fun r2 u t H1 locs ht hvm hw hB hz1 hk1 hS => ?_)
  obtain ⟨u3, u4, u5, u6⟩ := u
  obtain ⟨hP1, hD1⟩ := hB
  rw [ht] at hP1
  replace h := hw
  try dsimp only at h
  obtain ⟨hP, hD⟩ := va_join (wr := []) (w1 := [(q0, .inr (7, [.int v_beats, .int u3, .int v_seedNow, .ref q_pastBeats, .ref q_pastRhythm, .int u4, .ref q_imageBeats, .ref q_imageRhythm, .ref q_imageSeed, .ref q_isKept, .ref q_heardBeat, .ref q_heardStruck, .int v_heard, .ref q_text, .int v_textLong, .int v_faultAt, .int v_readBeats, .int v_readRhythm, .ref q_tilings, .int v_tilingMany, .int v_tiledBeats, .int v_tiledRhythm, .ref q_shifts, .ref q_struck, .ref q_chosen, .int v_leastSet, .int v_necklaceBy])), (q_pastBeats, .inl (cI, 30, .inl u5)), (q_pastRhythm, .inl (cI, 30, .inl u6))]) hP hD [0, 1, 2] [] rfl rfl (by decide) (by decide) hk1 hFc hP1 hD1
  clear hP1 hD1 hFc hDc hPc hk1 hz1 hw hvm ht
  generalize H1 = H at hP hS ⊢
  have hP : va_P (dC, dI) vwCl [(q0, .inr (7, [.int v_beats, .int u3, .int v_seedNow, .ref q_pastBeats, .ref q_pastRhythm, .int u4, .ref q_imageBeats, .ref q_imageRhythm, .ref q_imageSeed, .ref q_isKept, .ref q_heardBeat, .ref q_heardStruck, .int v_heard, .ref q_text, .int v_textLong, .int v_faultAt, .int v_readBeats, .int v_readRhythm, .ref q_tilings, .int v_tilingMany, .int v_tiledBeats, .int v_tiledRhythm, .ref q_shifts, .ref q_struck, .ref q_chosen, .int v_leastSet, .int v_necklaceBy])), (q_pastBeats, .inl (cI, 30, .inl u5)), (q_pastRhythm, .inl (cI, 30, .inl u6))] H := hP.sub [0, 1, 2] rfl
  have hD : va_D A [(q0, .inr (7, [.int v_beats, .int u3, .int v_seedNow, .ref q_pastBeats, .ref q_pastRhythm, .int u4, .ref q_imageBeats, .ref q_imageRhythm, .ref q_imageSeed, .ref q_isKept, .ref q_heardBeat, .ref q_heardStruck, .int v_heard, .ref q_text, .int v_textLong, .int v_faultAt, .int v_readBeats, .int v_readRhythm, .ref q_tilings, .int v_tilingMany, .int v_tiledBeats, .int v_tiledRhythm, .ref q_shifts, .ref q_struck, .ref q_chosen, .int v_leastSet, .int v_necklaceBy])), (q_pastBeats, .inl (cI, 30, .inl u5)), (q_pastRhythm, .inl (cI, 30, .inl u6))] := hD.sub [0, 1, 2] (by decide) rfl
  exact W.iret (v := r2) hx hb hr (fun t ht hW => ⟨⟨_, (u3, u4, u5, u6), rfl, h, by rw [ht]; exact hP, hD⟩, hS.F ht⟩) hS.2.2 dX10_over_16

def wp_X10_behind (v_beats : Int32) (v_rhythm : Int32) (v_undone : Int32) (f_pastBeats : (Nat → Int32)) (f_pastRhythm : (Nat → Int32)) (Q : Int32 → Int32 → Int32 → (Nat → Int32) → (Nat → Int32) → Prop) : Prop := wp_X10_behindOf v_rhythm v_beats fun (r1 : Int32) => wp_X10_becomes v_beats v_rhythm v_undone f_pastBeats f_pastRhythm r1 fun (r2 : Int32) (u3 : Int32) (u4 : Int32) (u5 : (Nat → Int32)) (u6 : (Nat → Int32)) => Q r2 u3 u4 u5 u6
abbrev rmX10_behind : Room := { frames := 2, cells := 0, slots := 0, locals := 44 }
set_option maxRecDepth 20000 in
theorem iX10_behind_X10 : ∀ w ∈ wsX100, w ∈ wsX10_behind := by decide +kernel
set_option maxHeartbeats 4000000 in
set_option maxRecDepth 100000 in
theorem c_X10_behind (l : Launch) (dC : Nat → ClassId) (dI : Nat → Nat → Nat) (cI cZ : ClassId) (q0 q_pastBeats q_pastRhythm q_imageBeats q_imageRhythm q_imageSeed q_isKept q_heardBeat q_heardStruck q_text q_tilings q_shifts q_struck q_chosen : Nat) (sz : Nat) (v_beats : Int32) (v_rhythm : Int32) (v_seedNow : Int32) (v_undone : Int32) (v_heard : Int32) (v_textLong : Int32) (v_faultAt : Int32) (v_readBeats : Int32) (v_readRhythm : Int32) (v_tilingMany : Int32) (v_tiledBeats : Int32) (v_tiledRhythm : Int32) (v_leastSet : Int32) (v_necklaceBy : Int32) (f_pastBeats : (Nat → Int32)) (f_pastRhythm : (Nat → Int32))  (Q : Int32 → Int32 → Int32 → (Nat → Int32) → (Nat → Int32) → Prop) (h : wp_X10_behind v_beats v_rhythm v_undone f_pastBeats f_pastRhythm Q) : Met l yX10_behind wsX10_behind (rmX10_behind) (va_Pc [.ref q0] (fun U => U.heap.size = sz ∧ va_P (dC, dI) vwCl [(q0, .inr (7, [.int v_beats, .int v_rhythm, .int v_seedNow, .ref q_pastBeats, .ref q_pastRhythm, .int v_undone, .ref q_imageBeats, .ref q_imageRhythm, .ref q_imageSeed, .ref q_isKept, .ref q_heardBeat, .ref q_heardStruck, .int v_heard, .ref q_text, .int v_textLong, .int v_faultAt, .int v_readBeats, .int v_readRhythm, .ref q_tilings, .int v_tilingMany, .int v_tiledBeats, .int v_tiledRhythm, .ref q_shifts, .ref q_struck, .ref q_chosen, .int v_leastSet, .int v_necklaceBy])), (q_pastBeats, .inl (cI, 30, .inl f_pastBeats)), (q_pastRhythm, .inl (cI, 30, .inl f_pastRhythm))] U.heap ∧ va_K (dC, dI) vwCl (tyZ cI cZ) U ∧ va_D (fun _ => True) [(q0, .inr (7, [.int v_beats, .int v_rhythm, .int v_seedNow, .ref q_pastBeats, .ref q_pastRhythm, .int v_undone, .ref q_imageBeats, .ref q_imageRhythm, .ref q_imageSeed, .ref q_isKept, .ref q_heardBeat, .ref q_heardStruck, .int v_heard, .ref q_text, .int v_textLong, .int v_faultAt, .int v_readBeats, .int v_readRhythm, .ref q_tilings, .int v_tilingMany, .int v_tiledBeats, .int v_tiledRhythm, .ref q_shifts, .ref q_struck, .ref q_chosen, .int v_leastSet, .int v_necklaceBy])), (q_pastBeats, .inl (cI, 30, .inl f_pastBeats)), (q_pastRhythm, .inl (cI, 30, .inl f_pastRhythm))] ∧ nW U)) (va_Qi (fun (r : Int32) (u : Int32 × Int32 × (Nat → Int32) × (Nat → Int32)) => Q r u.1 u.2.1 u.2.2.1 u.2.2.2) (fun (u : Int32 × Int32 × (Nat → Int32) × (Nat → Int32)) (t : State) => va_P (dC, dI) vwCl [(q0, .inr (7, [.int v_beats, .int u.1, .int v_seedNow, .ref q_pastBeats, .ref q_pastRhythm, .int u.2.1, .ref q_imageBeats, .ref q_imageRhythm, .ref q_imageSeed, .ref q_isKept, .ref q_heardBeat, .ref q_heardStruck, .int v_heard, .ref q_text, .int v_textLong, .int v_faultAt, .int v_readBeats, .int v_readRhythm, .ref q_tilings, .int v_tilingMany, .int v_tiledBeats, .int v_tiledRhythm, .ref q_shifts, .ref q_struck, .ref q_chosen, .int v_leastSet, .int v_necklaceBy])), (q_pastBeats, .inl (cI, 30, .inl u.2.2.1)), (q_pastRhythm, .inl (cI, 30, .inl u.2.2.2))] t.heap ∧ va_D (va_A [(q0, .inr (7, [.int v_beats, .int v_rhythm, .int v_seedNow, .ref q_pastBeats, .ref q_pastRhythm, .int v_undone, .ref q_imageBeats, .ref q_imageRhythm, .ref q_imageSeed, .ref q_isKept, .ref q_heardBeat, .ref q_heardStruck, .int v_heard, .ref q_text, .int v_textLong, .int v_faultAt, .int v_readBeats, .int v_readRhythm, .ref q_tilings, .int v_tilingMany, .int v_tiledBeats, .int v_tiledRhythm, .ref q_shifts, .ref q_struck, .ref q_chosen, .int v_leastSet, .int v_necklaceBy])), (q_pastBeats, .inl (cI, 30, .inl f_pastBeats)), (q_pastRhythm, .inl (cI, 30, .inl f_pastRhythm))] sz) [(q0, .inr (7, [.int v_beats, .int u.1, .int v_seedNow, .ref q_pastBeats, .ref q_pastRhythm, .int u.2.1, .ref q_imageBeats, .ref q_imageRhythm, .ref q_imageSeed, .ref q_isKept, .ref q_heardBeat, .ref q_heardStruck, .int v_heard, .ref q_text, .int v_textLong, .int v_faultAt, .int v_readBeats, .int v_readRhythm, .ref q_tilings, .int v_tilingMany, .int v_tiledBeats, .int v_tiledRhythm, .ref q_shifts, .ref q_struck, .ref q_chosen, .int v_leastSet, .int v_necklaceBy])), (q_pastBeats, .inl (cI, 30, .inl u.2.2.1)), (q_pastRhythm, .inl (cI, 30, .inl u.2.2.2))]) (va_A [(q0, .inr (7, [.int v_beats, .int v_rhythm, .int v_seedNow, .ref q_pastBeats, .ref q_pastRhythm, .int v_undone, .ref q_imageBeats, .ref q_imageRhythm, .ref q_imageSeed, .ref q_isKept, .ref q_heardBeat, .ref q_heardStruck, .int v_heard, .ref q_text, .int v_textLong, .int v_faultAt, .int v_readBeats, .int v_readRhythm, .ref q_tilings, .int v_tilingMany, .int v_tiledBeats, .int v_tiledRhythm, .ref q_shifts, .ref q_struck, .ref q_chosen, .int v_leastSet, .int v_necklaceBy])), (q_pastBeats, .inl (cI, 30, .inl f_pastBeats)), (q_pastRhythm, .inl (cI, 30, .inl f_pastRhythm))] sz)) 0 0 (va_A [(q0, .inr (7, [.int v_beats, .int v_rhythm, .int v_seedNow, .ref q_pastBeats, .ref q_pastRhythm, .int v_undone, .ref q_imageBeats, .ref q_imageRhythm, .ref q_imageSeed, .ref q_isKept, .ref q_heardBeat, .ref q_heardStruck, .int v_heard, .ref q_text, .int v_textLong, .int v_faultAt, .int v_readBeats, .int v_readRhythm, .ref q_tilings, .int v_tilingMany, .int v_tiledBeats, .int v_tiledRhythm, .ref q_shifts, .ref q_struck, .ref q_chosen, .int v_leastSet, .int v_necklaceBy])), (q_pastBeats, .inl (cI, 30, .inl f_pastBeats)), (q_pastRhythm, .inl (cI, 30, .inl f_pastRhythm))] sz) := by
  unfold wp_X10_behind at h
  refine Met.ofW (cc := cX10_behind) (maxL := 1) (ret := (some .int)) (by decide) rfl ?_
  intro p e s m args below meth c s₁ B hml hv
  obtain ⟨rfl, hsz, hP, hK, hD0, hN⟩ := hv
  have hx := B.exec
  have hb := B.bytes
  have hr := B.returns
  have hts := atoms_spec (ws := wsX10_behind) B.pre
  have hown : s.vm.findClass RX10 = some m.cls := findClass_of_methodNamed B.named
  have hlocks := B.notSynchronized
  subst hsz
  have hD := hD0.self (sz := s.heap.size)
  generalize hAe : va_A [(q0, .inr (7, [.int v_beats, .int v_rhythm, .int v_seedNow, .ref q_pastBeats, .ref q_pastRhythm, .int v_undone, .ref q_imageBeats, .ref q_imageRhythm, .ref q_imageSeed, .ref q_isKept, .ref q_heardBeat, .ref q_heardStruck, .int v_heard, .ref q_text, .int v_textLong, .int v_faultAt, .int v_readBeats, .int v_readRhythm, .ref q_tilings, .int v_tilingMany, .int v_tiledBeats, .int v_tiledRhythm, .ref q_shifts, .ref q_struck, .ref q_chosen, .int v_leastSet, .int v_necklaceBy])), (q_pastBeats, .inl (cI, 30, .inl f_pastBeats)), (q_pastRhythm, .inl (cI, 30, .inl f_pastRhythm))] s.heap.size = A at hD ⊢
  have hA : ∀ q : Nat, s.heap.size ≤ q → A q := fun q h => by rw [← hAe]; exact Or.inr h
  clear hAe
  have hS : va_S A s.heap s.heap [] := va_S.rf
  have hl := lv_entry ([.ref q0]) (n := 1) (Nat.le_of_ble_eq_true rfl)
  rw [lg_entry_eq]
  generalize (lg_sl ([.ref q0]) ++ List.replicate (1 - (lg_sl ([.ref q0])).length) Slot.unset).toArray = ls at hl ⊢
  have hl : lv_has ls 1 [(0, .ref q0)] := hl
  refine lv_aload_n hx hb dX10_behind_0 rfl (lv_at hl 0 rfl) ?_
  refine lv_aload_n hx hb dX10_behind_1 rfl (lv_at hl 0 rfl) ?_
  refine va_get (D := (dC, dI)) (ci := 7) (v := .int v_rhythm) (C := RX10) (T := TX10) (N := 27) hx hb hts iX10_behind_X10 hown hK hP 0 rfl rfl 1 (by decide) (hts (.fieldLink RX10 101 "TilingBeatsModel" "rhythm" "I") (by decide +kernel)) (fun _ h9 => h9) rfl dX10_behind_2 ?_
  refine lv_aload_n hx hb dX10_behind_5 rfl (lv_at hl 0 rfl) ?_
  refine va_get (D := (dC, dI)) (ci := 7) (v := .int v_beats) (C := RX10) (T := TX10) (N := 27) hx hb hts iX10_behind_X10 hown hK hP 0 rfl rfl 0 (by decide) (hts (.fieldLink RX10 7 "TilingBeatsModel" "beats" "I") (by decide +kernel)) (fun _ h9 => h9) rfl dX10_behind_6 ?_
  refine vs_calli (va_runS (As := [.int v_rhythm, .int v_beats]) (rest := [.ref q0]) ⟨hx, hb, hml, hown, hts⟩ (c_X10_behindOf l v_rhythm v_beats _ h) (va_cwS 2 hts gX10_behind_X10_behindOf rfl rfl rfl (by decide +kernel) ⟨Nat.le_of_ble_eq_true rfl, Nat.le_of_ble_eq_true rfl⟩) ⟨fun a U g mk q => ⟨q.1, nW_call q.2⟩, fun U hU hW => ⟨rfl, nW_warm hW hN⟩⟩ rfl rfl hl.1 rfl (lv_room (Nat.le_of_ble_eq_true rfl)) dX10_behind_9 ⟨Nat.le_of_ble_eq_true rfl, Nat.le_of_ble_eq_true rfl⟩) (fun r1 h => ?_)
  have hPc := hP.sub (ws' := [(q0, .inr (7, [.int v_beats, .int v_rhythm, .int v_seedNow, .ref q_pastBeats, .ref q_pastRhythm, .int v_undone, .ref q_imageBeats, .ref q_imageRhythm, .ref q_imageSeed, .ref q_isKept, .ref q_heardBeat, .ref q_heardStruck, .int v_heard, .ref q_text, .int v_textLong, .int v_faultAt, .int v_readBeats, .int v_readRhythm, .ref q_tilings, .int v_tilingMany, .int v_tiledBeats, .int v_tiledRhythm, .ref q_shifts, .ref q_struck, .ref q_chosen, .int v_leastSet, .int v_necklaceBy])), (q_pastBeats, .inl (cI, 30, .inl f_pastBeats)), (q_pastRhythm, .inl (cI, 30, .inl f_pastRhythm))]) [0, 1, 2] rfl
  have hDc := hD.sub (ws' := [(q0, .inr (7, [.int v_beats, .int v_rhythm, .int v_seedNow, .ref q_pastBeats, .ref q_pastRhythm, .int v_undone, .ref q_imageBeats, .ref q_imageRhythm, .ref q_imageSeed, .ref q_isKept, .ref q_heardBeat, .ref q_heardStruck, .int v_heard, .ref q_text, .int v_textLong, .int v_faultAt, .int v_readBeats, .int v_readRhythm, .ref q_tilings, .int v_tilingMany, .int v_tiledBeats, .int v_tiledRhythm, .ref q_shifts, .ref q_struck, .ref q_chosen, .int v_leastSet, .int v_necklaceBy])), (q_pastBeats, .inl (cI, 30, .inl f_pastBeats)), (q_pastRhythm, .inl (cI, 30, .inl f_pastRhythm))]) [0, 1, 2] (by decide) rfl
  have hFc := va_free (wc := [(q0, .inr (7, [.int v_beats, .int v_rhythm, .int v_seedNow, .ref q_pastBeats, .ref q_pastRhythm, .int v_undone, .ref q_imageBeats, .ref q_imageRhythm, .ref q_imageSeed, .ref q_isKept, .ref q_heardBeat, .ref q_heardStruck, .int v_heard, .ref q_text, .int v_textLong, .int v_faultAt, .int v_readBeats, .int v_readRhythm, .ref q_tilings, .int v_tilingMany, .int v_tiledBeats, .int v_tiledRhythm, .ref q_shifts, .ref q_struck, .ref q_chosen, .int v_leastSet, .int v_necklaceBy])), (q_pastBeats, .inl (cI, 30, .inl f_pastBeats)), (q_pastRhythm, .inl (cI, 30, .inl f_pastRhythm))]) hD hS hA [0, 1, 2] rfl
  refine va_calli (va_runV (As := [.int r1]) (rest := []) ⟨hx, hb, hml, hown, hts⟩ (c_X10_becomes l dC dI cI cZ q0 q_pastBeats q_pastRhythm q_imageBeats q_imageRhythm q_imageSeed q_isKept q_heardBeat q_heardStruck q_text q_tilings q_shifts q_struck q_chosen s.heap.size v_beats v_rhythm v_seedNow v_undone v_heard v_textLong v_faultAt v_readBeats v_readRhythm v_tilingMany v_tiledBeats v_tiledRhythm v_leastSet v_necklaceBy f_pastBeats f_pastRhythm r1 _ h) (cwV 1 hts gX10_behind_X10_becomes rfl rfl rfl (by decide +kernel) ⟨Nat.le_of_ble_eq_true rfl, Nat.le_of_ble_eq_true rfl⟩) ⟨fun a U g mk q => ⟨q.1, q.2.1, q.2.2.1, va_K.moved (u := U) (U := U.calling g mk a) (Vm.Alike.refl U.vm) q.2.2.2.1, q.2.2.2.2.1, nW_call q.2.2.2.2.2⟩, va_recv hK hPc (ci := 7) (q0 := 0) rfl rfl, fun U hU hW => ⟨rfl, by rw [hU], by rw [hU]; exact hPc, va_K.moved hW.alike hK, hDc.weaken (fun _ _ _ _ => trivial), nW_warm hW hN⟩⟩ rfl rfl hl.1 rfl (lv_room (Nat.le_of_ble_eq_true rfl)) dX10_behind_12 ⟨Nat.le_of_ble_eq_true rfl, Nat.le_of_ble_eq_true rfl⟩) hS (fun q _ h => hFc q h) hFc (fun r2 u t H1 locs ht hvm hw hB hz1 hk1 hS => ?_)
  obtain ⟨u3, u4, u5, u6⟩ := u
  obtain ⟨hP1, hD1⟩ := hB
  rw [ht] at hP1
  replace h := hw
  try dsimp only at h
  obtain ⟨hP, hD⟩ := va_join (wr := []) (w1 := [(q0, .inr (7, [.int v_beats, .int u3, .int v_seedNow, .ref q_pastBeats, .ref q_pastRhythm, .int u4, .ref q_imageBeats, .ref q_imageRhythm, .ref q_imageSeed, .ref q_isKept, .ref q_heardBeat, .ref q_heardStruck, .int v_heard, .ref q_text, .int v_textLong, .int v_faultAt, .int v_readBeats, .int v_readRhythm, .ref q_tilings, .int v_tilingMany, .int v_tiledBeats, .int v_tiledRhythm, .ref q_shifts, .ref q_struck, .ref q_chosen, .int v_leastSet, .int v_necklaceBy])), (q_pastBeats, .inl (cI, 30, .inl u5)), (q_pastRhythm, .inl (cI, 30, .inl u6))]) hP hD [0, 1, 2] [] rfl rfl (by decide) (by decide) hk1 hFc hP1 hD1
  clear hP1 hD1 hFc hDc hPc hk1 hz1 hw hvm ht
  generalize H1 = H at hP hS ⊢
  have hP : va_P (dC, dI) vwCl [(q0, .inr (7, [.int v_beats, .int u3, .int v_seedNow, .ref q_pastBeats, .ref q_pastRhythm, .int u4, .ref q_imageBeats, .ref q_imageRhythm, .ref q_imageSeed, .ref q_isKept, .ref q_heardBeat, .ref q_heardStruck, .int v_heard, .ref q_text, .int v_textLong, .int v_faultAt, .int v_readBeats, .int v_readRhythm, .ref q_tilings, .int v_tilingMany, .int v_tiledBeats, .int v_tiledRhythm, .ref q_shifts, .ref q_struck, .ref q_chosen, .int v_leastSet, .int v_necklaceBy])), (q_pastBeats, .inl (cI, 30, .inl u5)), (q_pastRhythm, .inl (cI, 30, .inl u6))] H := hP.sub [0, 1, 2] rfl
  have hD : va_D A [(q0, .inr (7, [.int v_beats, .int u3, .int v_seedNow, .ref q_pastBeats, .ref q_pastRhythm, .int u4, .ref q_imageBeats, .ref q_imageRhythm, .ref q_imageSeed, .ref q_isKept, .ref q_heardBeat, .ref q_heardStruck, .int v_heard, .ref q_text, .int v_textLong, .int v_faultAt, .int v_readBeats, .int v_readRhythm, .ref q_tilings, .int v_tilingMany, .int v_tiledBeats, .int v_tiledRhythm, .ref q_shifts, .ref q_struck, .ref q_chosen, .int v_leastSet, .int v_necklaceBy])), (q_pastBeats, .inl (cI, 30, .inl u5)), (q_pastRhythm, .inl (cI, 30, .inl u6))] := hD.sub [0, 1, 2] (by decide) rfl
  exact W.iret (v := r2) hx hb hr (fun t ht hW => ⟨⟨_, (u3, u4, u5, u6), rfl, h, by rw [ht]; exact hP, hD⟩, hS.F ht⟩) hS.2.2 dX10_behind_15

def wp_X10_stretch_j68 (v_beats : Int32) (L34 : Int32 → Int32 → Int32 → Int32 → Int32 → (Nat → Int32) → (Nat → Int32) → Prop) (Q : Int32 → Int32 → Int32 → (Nat → Int32) → (Nat → Int32) → Prop) (l1 : Int32) (l3 : Int32) (s0 : Int32) (s1 : Int32) (v_rhythm : Int32) (v_undone : Int32) (f_pastBeats : (Nat → Int32)) (f_pastRhythm : (Nat → Int32)) : Prop := ∀ x1 : Int32, x1 = (s0 ||| s1) → ∀ x2 : Int32, x2 = l3 + 1 → L34 l1 x1 x2 v_rhythm v_undone f_pastBeats f_pastRhythm
def wp_X10_stretch_h34 (v_beats : Int32) (Q : Int32 → Int32 → Int32 → (Nat → Int32) → (Nat → Int32) → Prop) : Nat → Int32 → Int32 → Int32 → Int32 → Int32 → (Nat → Int32) → (Nat → Int32) → Prop
  | 0, _, _, _, _, _, _, _ => False
  | z34 + 1, l1, l2, l3, v_rhythm, v_undone, f_pastBeats, f_pastRhythm => (v_beats ≤ l3 → (wp_X10_becomes v_beats v_rhythm v_undone f_pastBeats f_pastRhythm l2 fun (r4 : Int32) (u5 : Int32) (u6 : Int32) (u7 : (Nat → Int32)) (u8 : (Nat → Int32)) => Q r4 u5 u6 u7 u8)) ∧ (¬ v_beats ≤ l3 → (wp_X10_has v_rhythm l3 fun (r9 : Int32) => (r9 = 0 → (wp_X10_stretch_j68 v_beats (wp_X10_stretch_h34 v_beats Q z34) Q l1 l3 l2 0 v_rhythm v_undone f_pastBeats f_pastRhythm)) ∧ (¬ r9 = 0 → ((¬ (v_beats : Int32) = 0) ∧ wp_X10_stretch_j68 v_beats (wp_X10_stretch_h34 v_beats Q z34) Q l1 l3 l2 (1 <<< (((l3 * l1) - (l3 * l1) / v_beats * v_beats) &&& 31)) v_rhythm v_undone f_pastBeats f_pastRhythm))))
def wp_X10_stretch (v_beats : Int32) (v_rhythm : Int32) (v_undone : Int32) (f_pastBeats : (Nat → Int32)) (f_pastRhythm : (Nat → Int32)) (p1 : Int32) (Q : Int32 → Int32 → Int32 → (Nat → Int32) → (Nat → Int32) → Prop) : Prop := wp_X10_in (p1.toInt64) 1 23 fun (r11 : Int32) => (¬ r11 = 0 → (wp_X10_common p1 v_beats fun (r13 : Int32) => (r13 ≤ 1 → (∃ k15 : Nat, wp_X10_stretch_h34 v_beats Q k15 p1 0 0 v_rhythm v_undone f_pastBeats f_pastRhythm)) ∧ (¬ r13 ≤ 1 → (Q (-1000000003) v_rhythm v_undone f_pastBeats f_pastRhythm)))) ∧ (r11 = 0 → (Q (-1000000002) v_rhythm v_undone f_pastBeats f_pastRhythm))
abbrev rmX10_stretch : Room := { frames := 2, cells := 0, slots := 0, locals := 42 }
set_option maxRecDepth 20000 in
theorem iX10_stretch_X10 : ∀ w ∈ wsX100, w ∈ wsX10_stretch := by decide +kernel
set_option maxHeartbeats 4000000 in
set_option maxRecDepth 100000 in
theorem c_X10_stretch (l : Launch) (dC : Nat → ClassId) (dI : Nat → Nat → Nat) (cI cZ : ClassId) (q0 q_pastBeats q_pastRhythm q_imageBeats q_imageRhythm q_imageSeed q_isKept q_heardBeat q_heardStruck q_text q_tilings q_shifts q_struck q_chosen : Nat) (sz : Nat) (v_beats : Int32) (v_rhythm : Int32) (v_seedNow : Int32) (v_undone : Int32) (v_heard : Int32) (v_textLong : Int32) (v_faultAt : Int32) (v_readBeats : Int32) (v_readRhythm : Int32) (v_tilingMany : Int32) (v_tiledBeats : Int32) (v_tiledRhythm : Int32) (v_leastSet : Int32) (v_necklaceBy : Int32) (f_pastBeats : (Nat → Int32)) (f_pastRhythm : (Nat → Int32)) (p1 : Int32) (Q : Int32 → Int32 → Int32 → (Nat → Int32) → (Nat → Int32) → Prop) (h : wp_X10_stretch v_beats v_rhythm v_undone f_pastBeats f_pastRhythm p1 Q) : Met l yX10_stretch wsX10_stretch (rmX10_stretch) (va_Pc [.ref q0, .int p1] (fun U => U.heap.size = sz ∧ va_P (dC, dI) vwCl [(q0, .inr (7, [.int v_beats, .int v_rhythm, .int v_seedNow, .ref q_pastBeats, .ref q_pastRhythm, .int v_undone, .ref q_imageBeats, .ref q_imageRhythm, .ref q_imageSeed, .ref q_isKept, .ref q_heardBeat, .ref q_heardStruck, .int v_heard, .ref q_text, .int v_textLong, .int v_faultAt, .int v_readBeats, .int v_readRhythm, .ref q_tilings, .int v_tilingMany, .int v_tiledBeats, .int v_tiledRhythm, .ref q_shifts, .ref q_struck, .ref q_chosen, .int v_leastSet, .int v_necklaceBy])), (q_pastBeats, .inl (cI, 30, .inl f_pastBeats)), (q_pastRhythm, .inl (cI, 30, .inl f_pastRhythm))] U.heap ∧ va_K (dC, dI) vwCl (tyZ cI cZ) U ∧ va_D (fun _ => True) [(q0, .inr (7, [.int v_beats, .int v_rhythm, .int v_seedNow, .ref q_pastBeats, .ref q_pastRhythm, .int v_undone, .ref q_imageBeats, .ref q_imageRhythm, .ref q_imageSeed, .ref q_isKept, .ref q_heardBeat, .ref q_heardStruck, .int v_heard, .ref q_text, .int v_textLong, .int v_faultAt, .int v_readBeats, .int v_readRhythm, .ref q_tilings, .int v_tilingMany, .int v_tiledBeats, .int v_tiledRhythm, .ref q_shifts, .ref q_struck, .ref q_chosen, .int v_leastSet, .int v_necklaceBy])), (q_pastBeats, .inl (cI, 30, .inl f_pastBeats)), (q_pastRhythm, .inl (cI, 30, .inl f_pastRhythm))] ∧ nW U)) (va_Qi (fun (r : Int32) (u : Int32 × Int32 × (Nat → Int32) × (Nat → Int32)) => Q r u.1 u.2.1 u.2.2.1 u.2.2.2) (fun (u : Int32 × Int32 × (Nat → Int32) × (Nat → Int32)) (t : State) => va_P (dC, dI) vwCl [(q0, .inr (7, [.int v_beats, .int u.1, .int v_seedNow, .ref q_pastBeats, .ref q_pastRhythm, .int u.2.1, .ref q_imageBeats, .ref q_imageRhythm, .ref q_imageSeed, .ref q_isKept, .ref q_heardBeat, .ref q_heardStruck, .int v_heard, .ref q_text, .int v_textLong, .int v_faultAt, .int v_readBeats, .int v_readRhythm, .ref q_tilings, .int v_tilingMany, .int v_tiledBeats, .int v_tiledRhythm, .ref q_shifts, .ref q_struck, .ref q_chosen, .int v_leastSet, .int v_necklaceBy])), (q_pastBeats, .inl (cI, 30, .inl u.2.2.1)), (q_pastRhythm, .inl (cI, 30, .inl u.2.2.2))] t.heap ∧ va_D (va_A [(q0, .inr (7, [.int v_beats, .int v_rhythm, .int v_seedNow, .ref q_pastBeats, .ref q_pastRhythm, .int v_undone, .ref q_imageBeats, .ref q_imageRhythm, .ref q_imageSeed, .ref q_isKept, .ref q_heardBeat, .ref q_heardStruck, .int v_heard, .ref q_text, .int v_textLong, .int v_faultAt, .int v_readBeats, .int v_readRhythm, .ref q_tilings, .int v_tilingMany, .int v_tiledBeats, .int v_tiledRhythm, .ref q_shifts, .ref q_struck, .ref q_chosen, .int v_leastSet, .int v_necklaceBy])), (q_pastBeats, .inl (cI, 30, .inl f_pastBeats)), (q_pastRhythm, .inl (cI, 30, .inl f_pastRhythm))] sz) [(q0, .inr (7, [.int v_beats, .int u.1, .int v_seedNow, .ref q_pastBeats, .ref q_pastRhythm, .int u.2.1, .ref q_imageBeats, .ref q_imageRhythm, .ref q_imageSeed, .ref q_isKept, .ref q_heardBeat, .ref q_heardStruck, .int v_heard, .ref q_text, .int v_textLong, .int v_faultAt, .int v_readBeats, .int v_readRhythm, .ref q_tilings, .int v_tilingMany, .int v_tiledBeats, .int v_tiledRhythm, .ref q_shifts, .ref q_struck, .ref q_chosen, .int v_leastSet, .int v_necklaceBy])), (q_pastBeats, .inl (cI, 30, .inl u.2.2.1)), (q_pastRhythm, .inl (cI, 30, .inl u.2.2.2))]) (va_A [(q0, .inr (7, [.int v_beats, .int v_rhythm, .int v_seedNow, .ref q_pastBeats, .ref q_pastRhythm, .int v_undone, .ref q_imageBeats, .ref q_imageRhythm, .ref q_imageSeed, .ref q_isKept, .ref q_heardBeat, .ref q_heardStruck, .int v_heard, .ref q_text, .int v_textLong, .int v_faultAt, .int v_readBeats, .int v_readRhythm, .ref q_tilings, .int v_tilingMany, .int v_tiledBeats, .int v_tiledRhythm, .ref q_shifts, .ref q_struck, .ref q_chosen, .int v_leastSet, .int v_necklaceBy])), (q_pastBeats, .inl (cI, 30, .inl f_pastBeats)), (q_pastRhythm, .inl (cI, 30, .inl f_pastRhythm))] sz)) 0 0 (va_A [(q0, .inr (7, [.int v_beats, .int v_rhythm, .int v_seedNow, .ref q_pastBeats, .ref q_pastRhythm, .int v_undone, .ref q_imageBeats, .ref q_imageRhythm, .ref q_imageSeed, .ref q_isKept, .ref q_heardBeat, .ref q_heardStruck, .int v_heard, .ref q_text, .int v_textLong, .int v_faultAt, .int v_readBeats, .int v_readRhythm, .ref q_tilings, .int v_tilingMany, .int v_tiledBeats, .int v_tiledRhythm, .ref q_shifts, .ref q_struck, .ref q_chosen, .int v_leastSet, .int v_necklaceBy])), (q_pastBeats, .inl (cI, 30, .inl f_pastBeats)), (q_pastRhythm, .inl (cI, 30, .inl f_pastRhythm))] sz) := by
  unfold wp_X10_stretch at h
  refine Met.ofW (cc := cX10_stretch) (maxL := 4) (ret := (some .int)) (by decide) rfl ?_
  intro p e s m args below meth c s₁ B hml hv
  obtain ⟨rfl, hsz, hP, hK, hD0, hN⟩ := hv
  have hx := B.exec
  have hb := B.bytes
  have hr := B.returns
  have hts := atoms_spec (ws := wsX10_stretch) B.pre
  have hown : s.vm.findClass RX10 = some m.cls := findClass_of_methodNamed B.named
  have hlocks := B.notSynchronized
  subst hsz
  have hD := hD0.self (sz := s.heap.size)
  generalize hAe : va_A [(q0, .inr (7, [.int v_beats, .int v_rhythm, .int v_seedNow, .ref q_pastBeats, .ref q_pastRhythm, .int v_undone, .ref q_imageBeats, .ref q_imageRhythm, .ref q_imageSeed, .ref q_isKept, .ref q_heardBeat, .ref q_heardStruck, .int v_heard, .ref q_text, .int v_textLong, .int v_faultAt, .int v_readBeats, .int v_readRhythm, .ref q_tilings, .int v_tilingMany, .int v_tiledBeats, .int v_tiledRhythm, .ref q_shifts, .ref q_struck, .ref q_chosen, .int v_leastSet, .int v_necklaceBy])), (q_pastBeats, .inl (cI, 30, .inl f_pastBeats)), (q_pastRhythm, .inl (cI, 30, .inl f_pastRhythm))] s.heap.size = A at hD ⊢
  have hA : ∀ q : Nat, s.heap.size ≤ q → A q := fun q h => by rw [← hAe]; exact Or.inr h
  clear hAe
  have hS : va_S A s.heap s.heap [] := va_S.rf
  have w34 : ∀ (z34 : Nat) (l1 : Int32) (l2 : Int32) (l3 : Int32) (v_rhythm : Int32) (v_undone : Int32) (f_pastBeats : (Nat → Int32)) (f_pastRhythm : (Nat → Int32)), wp_X10_stretch_h34 v_beats Q z34 l1 l2 l3 v_rhythm v_undone f_pastBeats f_pastRhythm → ∀ (H : Heap) (locs : List Loc) (ls : Array Slot), va_P (dC, dI) vwCl [(q0, .inr (7, [.int v_beats, .int v_rhythm, .int v_seedNow, .ref q_pastBeats, .ref q_pastRhythm, .int v_undone, .ref q_imageBeats, .ref q_imageRhythm, .ref q_imageSeed, .ref q_isKept, .ref q_heardBeat, .ref q_heardStruck, .int v_heard, .ref q_text, .int v_textLong, .int v_faultAt, .int v_readBeats, .int v_readRhythm, .ref q_tilings, .int v_tilingMany, .int v_tiledBeats, .int v_tiledRhythm, .ref q_shifts, .ref q_struck, .ref q_chosen, .int v_leastSet, .int v_necklaceBy])), (q_pastBeats, .inl (cI, 30, .inl f_pastBeats)), (q_pastRhythm, .inl (cI, 30, .inl f_pastRhythm))] H → va_D A [(q0, .inr (7, [.int v_beats, .int v_rhythm, .int v_seedNow, .ref q_pastBeats, .ref q_pastRhythm, .int v_undone, .ref q_imageBeats, .ref q_imageRhythm, .ref q_imageSeed, .ref q_isKept, .ref q_heardBeat, .ref q_heardStruck, .int v_heard, .ref q_text, .int v_textLong, .int v_faultAt, .int v_readBeats, .int v_readRhythm, .ref q_tilings, .int v_tilingMany, .int v_tiledBeats, .int v_tiledRhythm, .ref q_shifts, .ref q_struck, .ref q_chosen, .int v_leastSet, .int v_necklaceBy])), (q_pastBeats, .inl (cI, 30, .inl f_pastBeats)), (q_pastRhythm, .inl (cI, 30, .inl f_pastRhythm))] → va_S A s.heap H locs → lv_has ls 4 [(0, .ref q0), (1, .int l1), (2, .int l2), (3, .int l3)] → W p l e (headSpec wsX10_stretch (rmX10_stretch)).room s m ([.ref q0, .int p1] : List Value).toArray below meth c H locs 0 0 (MQ below (va_Qi (fun (r : Int32) (u : Int32 × Int32 × (Nat → Int32) × (Nat → Int32)) => Q r u.1 u.2.1 u.2.2.1 u.2.2.2) (fun (u : Int32 × Int32 × (Nat → Int32) × (Nat → Int32)) (t : State) => va_P (dC, dI) vwCl [(q0, .inr (7, [.int v_beats, .int u.1, .int v_seedNow, .ref q_pastBeats, .ref q_pastRhythm, .int u.2.1, .ref q_imageBeats, .ref q_imageRhythm, .ref q_imageSeed, .ref q_isKept, .ref q_heardBeat, .ref q_heardStruck, .int v_heard, .ref q_text, .int v_textLong, .int v_faultAt, .int v_readBeats, .int v_readRhythm, .ref q_tilings, .int v_tilingMany, .int v_tiledBeats, .int v_tiledRhythm, .ref q_shifts, .ref q_struck, .ref q_chosen, .int v_leastSet, .int v_necklaceBy])), (q_pastBeats, .inl (cI, 30, .inl u.2.2.1)), (q_pastRhythm, .inl (cI, 30, .inl u.2.2.2))] t.heap ∧ va_D A [(q0, .inr (7, [.int v_beats, .int u.1, .int v_seedNow, .ref q_pastBeats, .ref q_pastRhythm, .int u.2.1, .ref q_imageBeats, .ref q_imageRhythm, .ref q_imageSeed, .ref q_isKept, .ref q_heardBeat, .ref q_heardStruck, .int v_heard, .ref q_text, .int v_textLong, .int v_faultAt, .int v_readBeats, .int v_readRhythm, .ref q_tilings, .int v_tilingMany, .int v_tiledBeats, .int v_tiledRhythm, .ref q_shifts, .ref q_struck, .ref q_chosen, .int v_leastSet, .int v_necklaceBy])), (q_pastBeats, .inl (cI, 30, .inl u.2.2.1)), (q_pastRhythm, .inl (cI, 30, .inl u.2.2.2))]) A) ([.ref q0, .int p1] : List Value).toArray s 0 0 A) (F0 m 34 ls []) := by
    intro z34
    induction z34 with
    | zero => intro l1 l2 l3 v_rhythm v_undone f_pastBeats f_pastRhythm h; unfold wp_X10_stretch_h34 at h; exact h.elim
    | succ z34 k34 =>
      have w68 : ∀ (l1 : Int32) (l3 : Int32) (s0 : Int32) (s1 : Int32) (v_rhythm : Int32) (v_undone : Int32) (f_pastBeats : (Nat → Int32)) (f_pastRhythm : (Nat → Int32)), wp_X10_stretch_j68 v_beats (wp_X10_stretch_h34 v_beats Q z34) Q l1 l3 s0 s1 v_rhythm v_undone f_pastBeats f_pastRhythm → ∀ (H : Heap) (locs : List Loc) (ls : Array Slot), va_P (dC, dI) vwCl [(q0, .inr (7, [.int v_beats, .int v_rhythm, .int v_seedNow, .ref q_pastBeats, .ref q_pastRhythm, .int v_undone, .ref q_imageBeats, .ref q_imageRhythm, .ref q_imageSeed, .ref q_isKept, .ref q_heardBeat, .ref q_heardStruck, .int v_heard, .ref q_text, .int v_textLong, .int v_faultAt, .int v_readBeats, .int v_readRhythm, .ref q_tilings, .int v_tilingMany, .int v_tiledBeats, .int v_tiledRhythm, .ref q_shifts, .ref q_struck, .ref q_chosen, .int v_leastSet, .int v_necklaceBy])), (q_pastBeats, .inl (cI, 30, .inl f_pastBeats)), (q_pastRhythm, .inl (cI, 30, .inl f_pastRhythm))] H → va_D A [(q0, .inr (7, [.int v_beats, .int v_rhythm, .int v_seedNow, .ref q_pastBeats, .ref q_pastRhythm, .int v_undone, .ref q_imageBeats, .ref q_imageRhythm, .ref q_imageSeed, .ref q_isKept, .ref q_heardBeat, .ref q_heardStruck, .int v_heard, .ref q_text, .int v_textLong, .int v_faultAt, .int v_readBeats, .int v_readRhythm, .ref q_tilings, .int v_tilingMany, .int v_tiledBeats, .int v_tiledRhythm, .ref q_shifts, .ref q_struck, .ref q_chosen, .int v_leastSet, .int v_necklaceBy])), (q_pastBeats, .inl (cI, 30, .inl f_pastBeats)), (q_pastRhythm, .inl (cI, 30, .inl f_pastRhythm))] → va_S A s.heap H locs → lv_has ls 4 [(0, .ref q0), (1, .int l1), (3, .int l3)] → W p l e (headSpec wsX10_stretch (rmX10_stretch)).room s m ([.ref q0, .int p1] : List Value).toArray below meth c H locs 0 0 (MQ below (va_Qi (fun (r : Int32) (u : Int32 × Int32 × (Nat → Int32) × (Nat → Int32)) => Q r u.1 u.2.1 u.2.2.1 u.2.2.2) (fun (u : Int32 × Int32 × (Nat → Int32) × (Nat → Int32)) (t : State) => va_P (dC, dI) vwCl [(q0, .inr (7, [.int v_beats, .int u.1, .int v_seedNow, .ref q_pastBeats, .ref q_pastRhythm, .int u.2.1, .ref q_imageBeats, .ref q_imageRhythm, .ref q_imageSeed, .ref q_isKept, .ref q_heardBeat, .ref q_heardStruck, .int v_heard, .ref q_text, .int v_textLong, .int v_faultAt, .int v_readBeats, .int v_readRhythm, .ref q_tilings, .int v_tilingMany, .int v_tiledBeats, .int v_tiledRhythm, .ref q_shifts, .ref q_struck, .ref q_chosen, .int v_leastSet, .int v_necklaceBy])), (q_pastBeats, .inl (cI, 30, .inl u.2.2.1)), (q_pastRhythm, .inl (cI, 30, .inl u.2.2.2))] t.heap ∧ va_D A [(q0, .inr (7, [.int v_beats, .int u.1, .int v_seedNow, .ref q_pastBeats, .ref q_pastRhythm, .int u.2.1, .ref q_imageBeats, .ref q_imageRhythm, .ref q_imageSeed, .ref q_isKept, .ref q_heardBeat, .ref q_heardStruck, .int v_heard, .ref q_text, .int v_textLong, .int v_faultAt, .int v_readBeats, .int v_readRhythm, .ref q_tilings, .int v_tilingMany, .int v_tiledBeats, .int v_tiledRhythm, .ref q_shifts, .ref q_struck, .ref q_chosen, .int v_leastSet, .int v_necklaceBy])), (q_pastBeats, .inl (cI, 30, .inl u.2.2.1)), (q_pastRhythm, .inl (cI, 30, .inl u.2.2.2))]) A) ([.ref q0, .int p1] : List Value).toArray s 0 0 A) (F0 m 68 ls [.int s1, .int s0]) := by
        intro l1 l3 s0 s1 v_rhythm v_undone f_pastBeats f_pastRhythm h H locs ls hP hD hS hl
        unfold wp_X10_stretch_j68 at h
        refine lv_ior hx hb dX10_stretch_68 ?_
        refine lv_topi (fun x1 ex1 => ?_)
        replace h := h x1 ex1
        refine lv_istore_n (lv' := [(2, .int x1), (0, .ref q0), (1, .int l1), (3, .int l3)]) hx hb dX10_stretch_69 rfl hl (by decide) rfl (fun ls hl => ?_)
        obtain ⟨x2, ex2⟩ : ∃ y : Int32, y = l3 + 1 := ⟨_, rfl⟩
        replace h := h x2 ex2
        refine lv_iinc (v := x2) (lv' := [(3, .int x2), (2, .int x1), (0, .ref q0), (1, .int l1)]) hx hb dX10_stretch_70 hl (k := 3) rfl (by rw [ex2]; rfl) (by decide) rfl (fun ls hl => ?_)
        refine lv_goto (tgt := 34) hx hb dX10_stretch_73 (by decide) ?_
        exact k34 l1 x1 x2 v_rhythm v_undone f_pastBeats f_pastRhythm h H locs ls hP hD hS (lv_sub hl [2, 3, 1, 0] rfl)
      intro l1 l2 l3 v_rhythm v_undone f_pastBeats f_pastRhythm h H locs ls hP hD hS hl
      unfold wp_X10_stretch_h34 at h
      refine lv_iload_n hx hb dX10_stretch_34 rfl (lv_at hl 3 rfl) ?_
      refine lv_aload_n hx hb dX10_stretch_35 rfl (lv_at hl 0 rfl) ?_
      refine va_get (D := (dC, dI)) (ci := 7) (v := .int v_beats) (C := RX10) (T := TX10) (N := 27) hx hb hts iX10_stretch_X10 hown hK hP 0 rfl rfl 0 (by decide) (hts (.fieldLink RX10 7 "TilingBeatsModel" "beats" "I") (by decide +kernel)) (fun _ h9 => h9) rfl dX10_stretch_36 ?_
      refine lv_icmp_ge (tgt := 76) hx hb dX10_stretch_39 (by decide) (fun c3 => ?_) (fun c3 => ?_)
      · replace h := h.1 c3
        refine lv_aload_n hx hb dX10_stretch_76 rfl (lv_at hl 0 rfl) ?_
        refine lv_iload_n hx hb dX10_stretch_77 rfl (lv_at hl 2 rfl) ?_
        have hPc := hP.sub (ws' := [(q0, .inr (7, [.int v_beats, .int v_rhythm, .int v_seedNow, .ref q_pastBeats, .ref q_pastRhythm, .int v_undone, .ref q_imageBeats, .ref q_imageRhythm, .ref q_imageSeed, .ref q_isKept, .ref q_heardBeat, .ref q_heardStruck, .int v_heard, .ref q_text, .int v_textLong, .int v_faultAt, .int v_readBeats, .int v_readRhythm, .ref q_tilings, .int v_tilingMany, .int v_tiledBeats, .int v_tiledRhythm, .ref q_shifts, .ref q_struck, .ref q_chosen, .int v_leastSet, .int v_necklaceBy])), (q_pastBeats, .inl (cI, 30, .inl f_pastBeats)), (q_pastRhythm, .inl (cI, 30, .inl f_pastRhythm))]) [0, 1, 2] rfl
        have hDc := hD.sub (ws' := [(q0, .inr (7, [.int v_beats, .int v_rhythm, .int v_seedNow, .ref q_pastBeats, .ref q_pastRhythm, .int v_undone, .ref q_imageBeats, .ref q_imageRhythm, .ref q_imageSeed, .ref q_isKept, .ref q_heardBeat, .ref q_heardStruck, .int v_heard, .ref q_text, .int v_textLong, .int v_faultAt, .int v_readBeats, .int v_readRhythm, .ref q_tilings, .int v_tilingMany, .int v_tiledBeats, .int v_tiledRhythm, .ref q_shifts, .ref q_struck, .ref q_chosen, .int v_leastSet, .int v_necklaceBy])), (q_pastBeats, .inl (cI, 30, .inl f_pastBeats)), (q_pastRhythm, .inl (cI, 30, .inl f_pastRhythm))]) [0, 1, 2] (by decide) rfl
        have hFc := va_free (wc := [(q0, .inr (7, [.int v_beats, .int v_rhythm, .int v_seedNow, .ref q_pastBeats, .ref q_pastRhythm, .int v_undone, .ref q_imageBeats, .ref q_imageRhythm, .ref q_imageSeed, .ref q_isKept, .ref q_heardBeat, .ref q_heardStruck, .int v_heard, .ref q_text, .int v_textLong, .int v_faultAt, .int v_readBeats, .int v_readRhythm, .ref q_tilings, .int v_tilingMany, .int v_tiledBeats, .int v_tiledRhythm, .ref q_shifts, .ref q_struck, .ref q_chosen, .int v_leastSet, .int v_necklaceBy])), (q_pastBeats, .inl (cI, 30, .inl f_pastBeats)), (q_pastRhythm, .inl (cI, 30, .inl f_pastRhythm))]) hD hS hA [0, 1, 2] rfl
        refine va_calli (va_runV (As := [.int l2]) (rest := []) ⟨hx, hb, hml, hown, hts⟩ (c_X10_becomes l dC dI cI cZ q0 q_pastBeats q_pastRhythm q_imageBeats q_imageRhythm q_imageSeed q_isKept q_heardBeat q_heardStruck q_text q_tilings q_shifts q_struck q_chosen H.size v_beats v_rhythm v_seedNow v_undone v_heard v_textLong v_faultAt v_readBeats v_readRhythm v_tilingMany v_tiledBeats v_tiledRhythm v_leastSet v_necklaceBy f_pastBeats f_pastRhythm l2 _ h) (cwV 1 hts gX10_stretch_X10_becomes rfl rfl rfl (by decide +kernel) ⟨Nat.le_of_ble_eq_true rfl, Nat.le_of_ble_eq_true rfl⟩) ⟨fun a U g mk q => ⟨q.1, q.2.1, q.2.2.1, va_K.moved (u := U) (U := U.calling g mk a) (Vm.Alike.refl U.vm) q.2.2.2.1, q.2.2.2.2.1, nW_call q.2.2.2.2.2⟩, va_recv hK hPc (ci := 7) (q0 := 0) rfl rfl, fun U hU hW => ⟨rfl, by rw [hU], by rw [hU]; exact hPc, va_K.moved hW.alike hK, hDc.weaken (fun _ _ _ _ => trivial), nW_warm hW hN⟩⟩ rfl rfl hl.1 rfl (lv_room (Nat.le_of_ble_eq_true rfl)) dX10_stretch_78 ⟨Nat.le_of_ble_eq_true rfl, Nat.le_of_ble_eq_true rfl⟩) hS (fun q _ h => hFc q h) hFc (fun r4 u t H1 locs ht hvm hw hB hz1 hk1 hS => ?_)
        obtain ⟨u5, u6, u7, u8⟩ := u
        obtain ⟨hP1, hD1⟩ := hB
        rw [ht] at hP1
        replace h := hw
        try dsimp only at h
        obtain ⟨hP, hD⟩ := va_join (wr := []) (w1 := [(q0, .inr (7, [.int v_beats, .int u5, .int v_seedNow, .ref q_pastBeats, .ref q_pastRhythm, .int u6, .ref q_imageBeats, .ref q_imageRhythm, .ref q_imageSeed, .ref q_isKept, .ref q_heardBeat, .ref q_heardStruck, .int v_heard, .ref q_text, .int v_textLong, .int v_faultAt, .int v_readBeats, .int v_readRhythm, .ref q_tilings, .int v_tilingMany, .int v_tiledBeats, .int v_tiledRhythm, .ref q_shifts, .ref q_struck, .ref q_chosen, .int v_leastSet, .int v_necklaceBy])), (q_pastBeats, .inl (cI, 30, .inl u7)), (q_pastRhythm, .inl (cI, 30, .inl u8))]) hP hD [0, 1, 2] [] rfl rfl (by decide) (by decide) hk1 hFc hP1 hD1
        clear hP1 hD1 hFc hDc hPc hk1 hz1 hw hvm ht
        generalize H1 = H at hP hS ⊢
        have hP : va_P (dC, dI) vwCl [(q0, .inr (7, [.int v_beats, .int u5, .int v_seedNow, .ref q_pastBeats, .ref q_pastRhythm, .int u6, .ref q_imageBeats, .ref q_imageRhythm, .ref q_imageSeed, .ref q_isKept, .ref q_heardBeat, .ref q_heardStruck, .int v_heard, .ref q_text, .int v_textLong, .int v_faultAt, .int v_readBeats, .int v_readRhythm, .ref q_tilings, .int v_tilingMany, .int v_tiledBeats, .int v_tiledRhythm, .ref q_shifts, .ref q_struck, .ref q_chosen, .int v_leastSet, .int v_necklaceBy])), (q_pastBeats, .inl (cI, 30, .inl u7)), (q_pastRhythm, .inl (cI, 30, .inl u8))] H := hP.sub [0, 1, 2] rfl
        have hD : va_D A [(q0, .inr (7, [.int v_beats, .int u5, .int v_seedNow, .ref q_pastBeats, .ref q_pastRhythm, .int u6, .ref q_imageBeats, .ref q_imageRhythm, .ref q_imageSeed, .ref q_isKept, .ref q_heardBeat, .ref q_heardStruck, .int v_heard, .ref q_text, .int v_textLong, .int v_faultAt, .int v_readBeats, .int v_readRhythm, .ref q_tilings, .int v_tilingMany, .int v_tiledBeats, .int v_tiledRhythm, .ref q_shifts, .ref q_struck, .ref q_chosen, .int v_leastSet, .int v_necklaceBy])), (q_pastBeats, .inl (cI, 30, .inl u7)), (q_pastRhythm, .inl (cI, 30, .inl u8))] := hD.sub [0, 1, 2] (by decide) rfl
        exact W.iret (v := r4) hx hb hr (fun t ht hW => ⟨⟨_, (u5, u6, u7, u8), rfl, h, by rw [ht]; exact hP, hD⟩, hS.F ht⟩) hS.2.2 dX10_stretch_81
      · replace h := h.2 c3
        refine lv_iload_n hx hb dX10_stretch_42 rfl (lv_at hl 2 rfl) ?_
        refine lv_aload_n hx hb dX10_stretch_43 rfl (lv_at hl 0 rfl) ?_
        refine va_get (D := (dC, dI)) (ci := 7) (v := .int v_rhythm) (C := RX10) (T := TX10) (N := 27) hx hb hts iX10_stretch_X10 hown hK hP 0 rfl rfl 1 (by decide) (hts (.fieldLink RX10 101 "TilingBeatsModel" "rhythm" "I") (by decide +kernel)) (fun _ h9 => h9) rfl dX10_stretch_44 ?_
        refine lv_iload_n hx hb dX10_stretch_47 rfl (lv_at hl 3 rfl) ?_
        refine vs_calli (va_runS (As := [.int v_rhythm, .int l3]) (rest := [.int l2]) ⟨hx, hb, hml, hown, hts⟩ (c_X10_has l v_rhythm l3 _ h) (va_cwS 2 hts gX10_stretch_X10_has rfl rfl rfl (by decide +kernel) ⟨Nat.le_of_ble_eq_true rfl, Nat.le_of_ble_eq_true rfl⟩) ⟨fun a U g mk q => ⟨q.1, nW_call q.2⟩, fun U hU hW => ⟨rfl, nW_warm hW hN⟩⟩ rfl rfl hl.1 rfl (lv_room (Nat.le_of_ble_eq_true rfl)) dX10_stretch_48 ⟨Nat.le_of_ble_eq_true rfl, Nat.le_of_ble_eq_true rfl⟩) (fun r9 h => ?_)
        refine lv_if_eq (tgt := 67) hx hb dX10_stretch_51 (by decide) (fun c10 => ?_) (fun c10 => ?_)
        · replace h := h.1 c10
          refine lv_iconst (v := 0) hx hb dX10_stretch_67 (by decide) ?_
          exact w68 l1 l3 l2 0 v_rhythm v_undone f_pastBeats f_pastRhythm h H locs ls hP hD hS (lv_sub hl [0, 1, 3] rfl)
        · replace h := h.2 c10
          refine lv_iconst (v := 1) hx hb dX10_stretch_54 (by decide) ?_
          refine lv_iload_n hx hb dX10_stretch_55 rfl (lv_at hl 3 rfl) ?_
          refine lv_iload_n hx hb dX10_stretch_56 rfl (lv_at hl 1 rfl) ?_
          refine lv_imul hx hb dX10_stretch_57 ?_
          refine lv_aload_n hx hb dX10_stretch_58 rfl (lv_at hl 0 rfl) ?_
          refine va_get (D := (dC, dI)) (ci := 7) (v := .int v_beats) (C := RX10) (T := TX10) (N := 27) hx hb hts iX10_stretch_X10 hown hK hP 0 rfl rfl 0 (by decide) (hts (.fieldLink RX10 7 "TilingBeatsModel" "beats" "I") (by decide +kernel)) (fun _ h9 => h9) rfl dX10_stretch_59 ?_
          refine lv_irem hx hb dX10_stretch_62 h.1 ?_
          replace h := h.2
          refine lv_ishl hx hb dX10_stretch_63 ?_
          refine lv_goto (tgt := 68) hx hb dX10_stretch_64 (by decide) ?_
          exact w68 l1 l3 l2 (1 <<< (((l3 * l1) - (l3 * l1) / v_beats * v_beats) &&& 31)) v_rhythm v_undone f_pastBeats f_pastRhythm h H locs ls hP hD hS (lv_sub hl [0, 1, 3] rfl)
  have hl := lv_entry ([.ref q0, .int p1]) (n := 4) (Nat.le_of_ble_eq_true rfl)
  rw [lg_entry_eq]
  generalize (lg_sl ([.ref q0, .int p1]) ++ List.replicate (4 - (lg_sl ([.ref q0, .int p1])).length) Slot.unset).toArray = ls at hl ⊢
  have hl : lv_has ls 4 [(0, .ref q0), (1, .int p1)] := hl
  refine lv_iload_n hx hb dX10_stretch_0 rfl (lv_at hl 1 rfl) ?_
  refine lv_i2l (v := (p1.toInt64)) hx hb dX10_stretch_1 rfl ?_
  refine lv_lconst (v := 1) hx hb dX10_stretch_2 (by decide) ?_
  refine lv_ldc2 (v := 23) hx hb hown (hts (.constantLong RX10 189 (23)) (by decide +kernel)) dX10_stretch_3 ?_
  refine vs_calli (va_runS (As := [.long (p1.toInt64), .long 1, .long 23]) (rest := []) ⟨hx, hb, hml, hown, hts⟩ (c_X10_in l (p1.toInt64) 1 23 _ h) (va_cwS 3 hts gX10_stretch_X10_in rfl rfl rfl (by decide +kernel) ⟨Nat.le_of_ble_eq_true rfl, Nat.le_of_ble_eq_true rfl⟩) ⟨fun a U g mk q => ⟨q.1, nW_call q.2⟩, fun U hU hW => ⟨rfl, nW_warm hW hN⟩⟩ rfl rfl hl.1 rfl (lv_room (Nat.le_of_ble_eq_true rfl)) dX10_stretch_6 ⟨Nat.le_of_ble_eq_true rfl, Nat.le_of_ble_eq_true rfl⟩) (fun r11 h => ?_)
  refine lv_if_ne (tgt := 15) hx hb dX10_stretch_9 (by decide) (fun c12 => ?_) (fun c12 => ?_)
  · replace h := h.1 c12
    refine lv_iload_n hx hb dX10_stretch_15 rfl (lv_at hl 1 rfl) ?_
    refine lv_aload_n hx hb dX10_stretch_16 rfl (lv_at hl 0 rfl) ?_
    refine va_get (D := (dC, dI)) (ci := 7) (v := .int v_beats) (C := RX10) (T := TX10) (N := 27) hx hb hts iX10_stretch_X10 hown hK hP 0 rfl rfl 0 (by decide) (hts (.fieldLink RX10 7 "TilingBeatsModel" "beats" "I") (by decide +kernel)) (fun _ h9 => h9) rfl dX10_stretch_17 ?_
    refine vs_calli (va_runS (As := [.int p1, .int v_beats]) (rest := []) ⟨hx, hb, hml, hown, hts⟩ (c_X10_common l p1 v_beats _ h) (va_cwS 2 hts gX10_stretch_X10_common rfl rfl rfl (by decide +kernel) ⟨Nat.le_of_ble_eq_true rfl, Nat.le_of_ble_eq_true rfl⟩) ⟨fun a U g mk q => ⟨q.1, nW_call q.2⟩, fun U hU hW => ⟨rfl, nW_warm hW hN⟩⟩ rfl rfl hl.1 rfl (lv_room (Nat.le_of_ble_eq_true rfl)) dX10_stretch_20 ⟨Nat.le_of_ble_eq_true rfl, Nat.le_of_ble_eq_true rfl⟩) (fun r13 h => ?_)
    refine lv_iconst (v := 1) hx hb dX10_stretch_23 (by decide) ?_
    refine lv_icmp_le (tgt := 30) hx hb dX10_stretch_24 (by decide) (fun c14 => ?_) (fun c14 => ?_)
    · replace h := h.1 c14
      refine lv_iconst (v := 0) hx hb dX10_stretch_30 (by decide) ?_
      refine lv_istore_n (lv' := [(2, .int 0), (0, .ref q0), (1, .int p1)]) hx hb dX10_stretch_31 rfl hl (by decide) rfl (fun ls hl => ?_)
      refine lv_iconst (v := 0) hx hb dX10_stretch_32 (by decide) ?_
      refine lv_istore_n (lv' := [(3, .int 0), (2, .int 0), (0, .ref q0), (1, .int p1)]) hx hb dX10_stretch_33 rfl hl (by decide) rfl (fun ls hl => ?_)
      obtain ⟨k15, h⟩ := h
      exact w34 k15 p1 0 0 v_rhythm v_undone f_pastBeats f_pastRhythm h s.heap [] ls hP hD hS (lv_sub hl [2, 3, 1, 0] rfl)
    · replace h := h.2 c14
      refine lv_ldc (v := (-1000000003)) hx hb hown (hts (.constant RX10 191 (-1000000003)) (by decide +kernel)) dX10_stretch_27 ?_
      exact W.iret (v := (-1000000003)) hx hb hr (fun t ht hW => ⟨⟨_, (v_rhythm, v_undone, f_pastBeats, f_pastRhythm), rfl, h, by rw [ht]; exact hP, hD⟩, hS.F ht⟩) hS.2.2 dX10_stretch_29
  · replace h := h.2 c12
    refine lv_ldc (v := (-1000000002)) hx hb hown (hts (.constant RX10 75 (-1000000002)) (by decide +kernel)) dX10_stretch_12 ?_
    exact W.iret (v := (-1000000002)) hx hb hr (fun t ht hW => ⟨⟨_, (v_rhythm, v_undone, f_pastBeats, f_pastRhythm), rfl, h, by rw [ht]; exact hP, hD⟩, hS.F ht⟩) hS.2.2 dX10_stretch_14

def wp_X10_twice (v_beats : Int32) (v_rhythm : Int32) (v_undone : Int32) (f_pastBeats : (Nat → Int32)) (f_pastRhythm : (Nat → Int32)) (Q : Int32 → Int32 → Int32 → Int32 → (Nat → Int32) → (Nat → Int32) → Prop) : Prop := ((2 * v_beats) ≤ 24 → (wp_X10_becomes v_beats v_rhythm v_undone f_pastBeats f_pastRhythm (v_rhythm ||| (v_rhythm <<< (v_beats &&& 31))) fun (r2 : Int32) (u3 : Int32) (u4 : Int32) (u5 : (Nat → Int32)) (u6 : (Nat → Int32)) => ∀ x7 : Int32, x7 = (v_beats * 2) → Q x7 x7 u3 u4 u5 u6)) ∧ (¬ (2 * v_beats) ≤ 24 → (Q (-1000000004) v_beats v_rhythm v_undone f_pastBeats f_pastRhythm))
abbrev rmX10_twice : Room := { frames := 2, cells := 0, slots := 0, locals := 42 }
set_option maxRecDepth 20000 in
theorem iX10_twice_X10 : ∀ w ∈ wsX100, w ∈ wsX10_twice := by decide +kernel
set_option maxHeartbeats 4000000 in
set_option maxRecDepth 100000 in
theorem c_X10_twice (l : Launch) (dC : Nat → ClassId) (dI : Nat → Nat → Nat) (cI cZ : ClassId) (q0 q_pastBeats q_pastRhythm q_imageBeats q_imageRhythm q_imageSeed q_isKept q_heardBeat q_heardStruck q_text q_tilings q_shifts q_struck q_chosen : Nat) (sz : Nat) (v_beats : Int32) (v_rhythm : Int32) (v_seedNow : Int32) (v_undone : Int32) (v_heard : Int32) (v_textLong : Int32) (v_faultAt : Int32) (v_readBeats : Int32) (v_readRhythm : Int32) (v_tilingMany : Int32) (v_tiledBeats : Int32) (v_tiledRhythm : Int32) (v_leastSet : Int32) (v_necklaceBy : Int32) (f_pastBeats : (Nat → Int32)) (f_pastRhythm : (Nat → Int32))  (Q : Int32 → Int32 → Int32 → Int32 → (Nat → Int32) → (Nat → Int32) → Prop) (h : wp_X10_twice v_beats v_rhythm v_undone f_pastBeats f_pastRhythm Q) : Met l yX10_twice wsX10_twice (rmX10_twice) (va_Pc [.ref q0] (fun U => U.heap.size = sz ∧ va_P (dC, dI) vwCl [(q0, .inr (7, [.int v_beats, .int v_rhythm, .int v_seedNow, .ref q_pastBeats, .ref q_pastRhythm, .int v_undone, .ref q_imageBeats, .ref q_imageRhythm, .ref q_imageSeed, .ref q_isKept, .ref q_heardBeat, .ref q_heardStruck, .int v_heard, .ref q_text, .int v_textLong, .int v_faultAt, .int v_readBeats, .int v_readRhythm, .ref q_tilings, .int v_tilingMany, .int v_tiledBeats, .int v_tiledRhythm, .ref q_shifts, .ref q_struck, .ref q_chosen, .int v_leastSet, .int v_necklaceBy])), (q_pastBeats, .inl (cI, 30, .inl f_pastBeats)), (q_pastRhythm, .inl (cI, 30, .inl f_pastRhythm))] U.heap ∧ va_K (dC, dI) vwCl (tyZ cI cZ) U ∧ va_D (fun _ => True) [(q0, .inr (7, [.int v_beats, .int v_rhythm, .int v_seedNow, .ref q_pastBeats, .ref q_pastRhythm, .int v_undone, .ref q_imageBeats, .ref q_imageRhythm, .ref q_imageSeed, .ref q_isKept, .ref q_heardBeat, .ref q_heardStruck, .int v_heard, .ref q_text, .int v_textLong, .int v_faultAt, .int v_readBeats, .int v_readRhythm, .ref q_tilings, .int v_tilingMany, .int v_tiledBeats, .int v_tiledRhythm, .ref q_shifts, .ref q_struck, .ref q_chosen, .int v_leastSet, .int v_necklaceBy])), (q_pastBeats, .inl (cI, 30, .inl f_pastBeats)), (q_pastRhythm, .inl (cI, 30, .inl f_pastRhythm))] ∧ nW U)) (va_Qi (fun (r : Int32) (u : Int32 × Int32 × Int32 × (Nat → Int32) × (Nat → Int32)) => Q r u.1 u.2.1 u.2.2.1 u.2.2.2.1 u.2.2.2.2) (fun (u : Int32 × Int32 × Int32 × (Nat → Int32) × (Nat → Int32)) (t : State) => va_P (dC, dI) vwCl [(q0, .inr (7, [.int u.1, .int u.2.1, .int v_seedNow, .ref q_pastBeats, .ref q_pastRhythm, .int u.2.2.1, .ref q_imageBeats, .ref q_imageRhythm, .ref q_imageSeed, .ref q_isKept, .ref q_heardBeat, .ref q_heardStruck, .int v_heard, .ref q_text, .int v_textLong, .int v_faultAt, .int v_readBeats, .int v_readRhythm, .ref q_tilings, .int v_tilingMany, .int v_tiledBeats, .int v_tiledRhythm, .ref q_shifts, .ref q_struck, .ref q_chosen, .int v_leastSet, .int v_necklaceBy])), (q_pastBeats, .inl (cI, 30, .inl u.2.2.2.1)), (q_pastRhythm, .inl (cI, 30, .inl u.2.2.2.2))] t.heap ∧ va_D (va_A [(q0, .inr (7, [.int v_beats, .int v_rhythm, .int v_seedNow, .ref q_pastBeats, .ref q_pastRhythm, .int v_undone, .ref q_imageBeats, .ref q_imageRhythm, .ref q_imageSeed, .ref q_isKept, .ref q_heardBeat, .ref q_heardStruck, .int v_heard, .ref q_text, .int v_textLong, .int v_faultAt, .int v_readBeats, .int v_readRhythm, .ref q_tilings, .int v_tilingMany, .int v_tiledBeats, .int v_tiledRhythm, .ref q_shifts, .ref q_struck, .ref q_chosen, .int v_leastSet, .int v_necklaceBy])), (q_pastBeats, .inl (cI, 30, .inl f_pastBeats)), (q_pastRhythm, .inl (cI, 30, .inl f_pastRhythm))] sz) [(q0, .inr (7, [.int u.1, .int u.2.1, .int v_seedNow, .ref q_pastBeats, .ref q_pastRhythm, .int u.2.2.1, .ref q_imageBeats, .ref q_imageRhythm, .ref q_imageSeed, .ref q_isKept, .ref q_heardBeat, .ref q_heardStruck, .int v_heard, .ref q_text, .int v_textLong, .int v_faultAt, .int v_readBeats, .int v_readRhythm, .ref q_tilings, .int v_tilingMany, .int v_tiledBeats, .int v_tiledRhythm, .ref q_shifts, .ref q_struck, .ref q_chosen, .int v_leastSet, .int v_necklaceBy])), (q_pastBeats, .inl (cI, 30, .inl u.2.2.2.1)), (q_pastRhythm, .inl (cI, 30, .inl u.2.2.2.2))]) (va_A [(q0, .inr (7, [.int v_beats, .int v_rhythm, .int v_seedNow, .ref q_pastBeats, .ref q_pastRhythm, .int v_undone, .ref q_imageBeats, .ref q_imageRhythm, .ref q_imageSeed, .ref q_isKept, .ref q_heardBeat, .ref q_heardStruck, .int v_heard, .ref q_text, .int v_textLong, .int v_faultAt, .int v_readBeats, .int v_readRhythm, .ref q_tilings, .int v_tilingMany, .int v_tiledBeats, .int v_tiledRhythm, .ref q_shifts, .ref q_struck, .ref q_chosen, .int v_leastSet, .int v_necklaceBy])), (q_pastBeats, .inl (cI, 30, .inl f_pastBeats)), (q_pastRhythm, .inl (cI, 30, .inl f_pastRhythm))] sz)) 0 0 (va_A [(q0, .inr (7, [.int v_beats, .int v_rhythm, .int v_seedNow, .ref q_pastBeats, .ref q_pastRhythm, .int v_undone, .ref q_imageBeats, .ref q_imageRhythm, .ref q_imageSeed, .ref q_isKept, .ref q_heardBeat, .ref q_heardStruck, .int v_heard, .ref q_text, .int v_textLong, .int v_faultAt, .int v_readBeats, .int v_readRhythm, .ref q_tilings, .int v_tilingMany, .int v_tiledBeats, .int v_tiledRhythm, .ref q_shifts, .ref q_struck, .ref q_chosen, .int v_leastSet, .int v_necklaceBy])), (q_pastBeats, .inl (cI, 30, .inl f_pastBeats)), (q_pastRhythm, .inl (cI, 30, .inl f_pastRhythm))] sz) := by
  unfold wp_X10_twice at h
  refine Met.ofW (cc := cX10_twice) (maxL := 2) (ret := (some .int)) (by decide) rfl ?_
  intro p e s m args below meth c s₁ B hml hv
  obtain ⟨rfl, hsz, hP, hK, hD0, hN⟩ := hv
  have hx := B.exec
  have hb := B.bytes
  have hr := B.returns
  have hts := atoms_spec (ws := wsX10_twice) B.pre
  have hown : s.vm.findClass RX10 = some m.cls := findClass_of_methodNamed B.named
  have hlocks := B.notSynchronized
  subst hsz
  have hD := hD0.self (sz := s.heap.size)
  generalize hAe : va_A [(q0, .inr (7, [.int v_beats, .int v_rhythm, .int v_seedNow, .ref q_pastBeats, .ref q_pastRhythm, .int v_undone, .ref q_imageBeats, .ref q_imageRhythm, .ref q_imageSeed, .ref q_isKept, .ref q_heardBeat, .ref q_heardStruck, .int v_heard, .ref q_text, .int v_textLong, .int v_faultAt, .int v_readBeats, .int v_readRhythm, .ref q_tilings, .int v_tilingMany, .int v_tiledBeats, .int v_tiledRhythm, .ref q_shifts, .ref q_struck, .ref q_chosen, .int v_leastSet, .int v_necklaceBy])), (q_pastBeats, .inl (cI, 30, .inl f_pastBeats)), (q_pastRhythm, .inl (cI, 30, .inl f_pastRhythm))] s.heap.size = A at hD ⊢
  have hA : ∀ q : Nat, s.heap.size ≤ q → A q := fun q h => by rw [← hAe]; exact Or.inr h
  clear hAe
  have hS : va_S A s.heap s.heap [] := va_S.rf
  have hl := lv_entry ([.ref q0]) (n := 2) (Nat.le_of_ble_eq_true rfl)
  rw [lg_entry_eq]
  generalize (lg_sl ([.ref q0]) ++ List.replicate (2 - (lg_sl ([.ref q0])).length) Slot.unset).toArray = ls at hl ⊢
  have hl : lv_has ls 2 [(0, .ref q0)] := hl
  refine lv_iconst (v := 2) hx hb dX10_twice_0 (by decide) ?_
  refine lv_aload_n hx hb dX10_twice_1 rfl (lv_at hl 0 rfl) ?_
  refine va_get (D := (dC, dI)) (ci := 7) (v := .int v_beats) (C := RX10) (T := TX10) (N := 27) hx hb hts iX10_twice_X10 hown hK hP 0 rfl rfl 0 (by decide) (hts (.fieldLink RX10 7 "TilingBeatsModel" "beats" "I") (by decide +kernel)) (fun _ h9 => h9) rfl dX10_twice_2 ?_
  refine lv_imul hx hb dX10_twice_5 ?_
  refine lv_bipush (v := 24) hx hb dX10_twice_6 (by decide) ?_
  refine lv_icmp_le (tgt := 14) hx hb dX10_twice_8 (by decide) (fun c1 => ?_) (fun c1 => ?_)
  · replace h := h.1 c1
    refine lv_aload_n hx hb dX10_twice_14 rfl (lv_at hl 0 rfl) ?_
    refine lv_aload_n hx hb dX10_twice_15 rfl (lv_at hl 0 rfl) ?_
    refine va_get (D := (dC, dI)) (ci := 7) (v := .int v_rhythm) (C := RX10) (T := TX10) (N := 27) hx hb hts iX10_twice_X10 hown hK hP 0 rfl rfl 1 (by decide) (hts (.fieldLink RX10 101 "TilingBeatsModel" "rhythm" "I") (by decide +kernel)) (fun _ h9 => h9) rfl dX10_twice_16 ?_
    refine lv_aload_n hx hb dX10_twice_19 rfl (lv_at hl 0 rfl) ?_
    refine va_get (D := (dC, dI)) (ci := 7) (v := .int v_rhythm) (C := RX10) (T := TX10) (N := 27) hx hb hts iX10_twice_X10 hown hK hP 0 rfl rfl 1 (by decide) (hts (.fieldLink RX10 101 "TilingBeatsModel" "rhythm" "I") (by decide +kernel)) (fun _ h9 => h9) rfl dX10_twice_20 ?_
    refine lv_aload_n hx hb dX10_twice_23 rfl (lv_at hl 0 rfl) ?_
    refine va_get (D := (dC, dI)) (ci := 7) (v := .int v_beats) (C := RX10) (T := TX10) (N := 27) hx hb hts iX10_twice_X10 hown hK hP 0 rfl rfl 0 (by decide) (hts (.fieldLink RX10 7 "TilingBeatsModel" "beats" "I") (by decide +kernel)) (fun _ h9 => h9) rfl dX10_twice_24 ?_
    refine lv_ishl hx hb dX10_twice_27 ?_
    refine lv_ior hx hb dX10_twice_28 ?_
    have hPc := hP.sub (ws' := [(q0, .inr (7, [.int v_beats, .int v_rhythm, .int v_seedNow, .ref q_pastBeats, .ref q_pastRhythm, .int v_undone, .ref q_imageBeats, .ref q_imageRhythm, .ref q_imageSeed, .ref q_isKept, .ref q_heardBeat, .ref q_heardStruck, .int v_heard, .ref q_text, .int v_textLong, .int v_faultAt, .int v_readBeats, .int v_readRhythm, .ref q_tilings, .int v_tilingMany, .int v_tiledBeats, .int v_tiledRhythm, .ref q_shifts, .ref q_struck, .ref q_chosen, .int v_leastSet, .int v_necklaceBy])), (q_pastBeats, .inl (cI, 30, .inl f_pastBeats)), (q_pastRhythm, .inl (cI, 30, .inl f_pastRhythm))]) [0, 1, 2] rfl
    have hDc := hD.sub (ws' := [(q0, .inr (7, [.int v_beats, .int v_rhythm, .int v_seedNow, .ref q_pastBeats, .ref q_pastRhythm, .int v_undone, .ref q_imageBeats, .ref q_imageRhythm, .ref q_imageSeed, .ref q_isKept, .ref q_heardBeat, .ref q_heardStruck, .int v_heard, .ref q_text, .int v_textLong, .int v_faultAt, .int v_readBeats, .int v_readRhythm, .ref q_tilings, .int v_tilingMany, .int v_tiledBeats, .int v_tiledRhythm, .ref q_shifts, .ref q_struck, .ref q_chosen, .int v_leastSet, .int v_necklaceBy])), (q_pastBeats, .inl (cI, 30, .inl f_pastBeats)), (q_pastRhythm, .inl (cI, 30, .inl f_pastRhythm))]) [0, 1, 2] (by decide) rfl
    have hFc := va_free (wc := [(q0, .inr (7, [.int v_beats, .int v_rhythm, .int v_seedNow, .ref q_pastBeats, .ref q_pastRhythm, .int v_undone, .ref q_imageBeats, .ref q_imageRhythm, .ref q_imageSeed, .ref q_isKept, .ref q_heardBeat, .ref q_heardStruck, .int v_heard, .ref q_text, .int v_textLong, .int v_faultAt, .int v_readBeats, .int v_readRhythm, .ref q_tilings, .int v_tilingMany, .int v_tiledBeats, .int v_tiledRhythm, .ref q_shifts, .ref q_struck, .ref q_chosen, .int v_leastSet, .int v_necklaceBy])), (q_pastBeats, .inl (cI, 30, .inl f_pastBeats)), (q_pastRhythm, .inl (cI, 30, .inl f_pastRhythm))]) hD hS hA [0, 1, 2] rfl
    refine va_calli (va_runV (As := [.int (v_rhythm ||| (v_rhythm <<< (v_beats &&& 31)))]) (rest := []) ⟨hx, hb, hml, hown, hts⟩ (c_X10_becomes l dC dI cI cZ q0 q_pastBeats q_pastRhythm q_imageBeats q_imageRhythm q_imageSeed q_isKept q_heardBeat q_heardStruck q_text q_tilings q_shifts q_struck q_chosen s.heap.size v_beats v_rhythm v_seedNow v_undone v_heard v_textLong v_faultAt v_readBeats v_readRhythm v_tilingMany v_tiledBeats v_tiledRhythm v_leastSet v_necklaceBy f_pastBeats f_pastRhythm (v_rhythm ||| (v_rhythm <<< (v_beats &&& 31))) _ h) (cwV 1 hts gX10_twice_X10_becomes rfl rfl rfl (by decide +kernel) ⟨Nat.le_of_ble_eq_true rfl, Nat.le_of_ble_eq_true rfl⟩) ⟨fun a U g mk q => ⟨q.1, q.2.1, q.2.2.1, va_K.moved (u := U) (U := U.calling g mk a) (Vm.Alike.refl U.vm) q.2.2.2.1, q.2.2.2.2.1, nW_call q.2.2.2.2.2⟩, va_recv hK hPc (ci := 7) (q0 := 0) rfl rfl, fun U hU hW => ⟨rfl, by rw [hU], by rw [hU]; exact hPc, va_K.moved hW.alike hK, hDc.weaken (fun _ _ _ _ => trivial), nW_warm hW hN⟩⟩ rfl rfl hl.1 rfl (lv_room (Nat.le_of_ble_eq_true rfl)) dX10_twice_29 ⟨Nat.le_of_ble_eq_true rfl, Nat.le_of_ble_eq_true rfl⟩) hS (fun q _ h => hFc q h) hFc (fun r2 u t H1 locs ht hvm hw hB hz1 hk1 hS => ?_)
    obtain ⟨u3, u4, u5, u6⟩ := u
    obtain ⟨hP1, hD1⟩ := hB
    rw [ht] at hP1
    replace h := hw
    try dsimp only at h
    obtain ⟨hP, hD⟩ := va_join (wr := []) (w1 := [(q0, .inr (7, [.int v_beats, .int u3, .int v_seedNow, .ref q_pastBeats, .ref q_pastRhythm, .int u4, .ref q_imageBeats, .ref q_imageRhythm, .ref q_imageSeed, .ref q_isKept, .ref q_heardBeat, .ref q_heardStruck, .int v_heard, .ref q_text, .int v_textLong, .int v_faultAt, .int v_readBeats, .int v_readRhythm, .ref q_tilings, .int v_tilingMany, .int v_tiledBeats, .int v_tiledRhythm, .ref q_shifts, .ref q_struck, .ref q_chosen, .int v_leastSet, .int v_necklaceBy])), (q_pastBeats, .inl (cI, 30, .inl u5)), (q_pastRhythm, .inl (cI, 30, .inl u6))]) hP hD [0, 1, 2] [] rfl rfl (by decide) (by decide) hk1 hFc hP1 hD1
    clear hP1 hD1 hFc hDc hPc hk1 hz1 hw hvm ht
    generalize H1 = H at hP hS ⊢
    have hP : va_P (dC, dI) vwCl [(q0, .inr (7, [.int v_beats, .int u3, .int v_seedNow, .ref q_pastBeats, .ref q_pastRhythm, .int u4, .ref q_imageBeats, .ref q_imageRhythm, .ref q_imageSeed, .ref q_isKept, .ref q_heardBeat, .ref q_heardStruck, .int v_heard, .ref q_text, .int v_textLong, .int v_faultAt, .int v_readBeats, .int v_readRhythm, .ref q_tilings, .int v_tilingMany, .int v_tiledBeats, .int v_tiledRhythm, .ref q_shifts, .ref q_struck, .ref q_chosen, .int v_leastSet, .int v_necklaceBy])), (q_pastBeats, .inl (cI, 30, .inl u5)), (q_pastRhythm, .inl (cI, 30, .inl u6))] H := hP.sub [0, 1, 2] rfl
    have hD : va_D A [(q0, .inr (7, [.int v_beats, .int u3, .int v_seedNow, .ref q_pastBeats, .ref q_pastRhythm, .int u4, .ref q_imageBeats, .ref q_imageRhythm, .ref q_imageSeed, .ref q_isKept, .ref q_heardBeat, .ref q_heardStruck, .int v_heard, .ref q_text, .int v_textLong, .int v_faultAt, .int v_readBeats, .int v_readRhythm, .ref q_tilings, .int v_tilingMany, .int v_tiledBeats, .int v_tiledRhythm, .ref q_shifts, .ref q_struck, .ref q_chosen, .int v_leastSet, .int v_necklaceBy])), (q_pastBeats, .inl (cI, 30, .inl u5)), (q_pastRhythm, .inl (cI, 30, .inl u6))] := hD.sub [0, 1, 2] (by decide) rfl
    refine lv_istore_n (lv' := [(1, .int r2), (0, .ref q0)]) hx hb dX10_twice_32 rfl hl (by decide) rfl (fun ls hl => ?_)
    refine lv_aload_n hx hb dX10_twice_33 rfl (lv_at hl 1 rfl) ?_
    refine lv_dup hx hb dX10_twice_34 rfl ?_
    refine va_get (D := (dC, dI)) (ci := 7) (v := .int v_beats) (C := RX10) (T := TX10) (N := 27) hx hb hts iX10_twice_X10 hown hK hP 0 rfl rfl 0 (by decide) (hts (.fieldLink RX10 7 "TilingBeatsModel" "beats" "I") (by decide +kernel)) (fun _ h9 => h9) rfl dX10_twice_35 ?_
    refine lv_iconst (v := 2) hx hb dX10_twice_38 (by decide) ?_
    refine lv_imul hx hb dX10_twice_39 ?_
    refine lv_topi (fun x7 ex7 => ?_)
    replace h := h x7 ex7
    refine va_put (D := (dC, dI)) (ci := 7) (v := .int x7) (ty := .int) (C := RX10) (T := TX10) (N := 27) hx hb hts iX10_twice_X10 tyX10 tyX10_ok nmX10 hown hK hP hD hS 0 rfl rfl 0 (by decide) (hts (.fieldLink RX10 7 "TilingBeatsModel" "beats" "I") (by decide +kernel)) (fun _ h9 => h9) rfl (by decide +kernel) rfl rfl (Nat.le_of_ble_eq_true rfl) dX10_twice_40 (fun H locs hP hD hS => ?_)
    have hP : va_P (dC, dI) vwCl [(q0, .inr (7, [.int x7, .int u3, .int v_seedNow, .ref q_pastBeats, .ref q_pastRhythm, .int u4, .ref q_imageBeats, .ref q_imageRhythm, .ref q_imageSeed, .ref q_isKept, .ref q_heardBeat, .ref q_heardStruck, .int v_heard, .ref q_text, .int v_textLong, .int v_faultAt, .int v_readBeats, .int v_readRhythm, .ref q_tilings, .int v_tilingMany, .int v_tiledBeats, .int v_tiledRhythm, .ref q_shifts, .ref q_struck, .ref q_chosen, .int v_leastSet, .int v_necklaceBy])), (q_pastBeats, .inl (cI, 30, .inl u5)), (q_pastRhythm, .inl (cI, 30, .inl u6))] H := hP
    have hD : va_D A [(q0, .inr (7, [.int x7, .int u3, .int v_seedNow, .ref q_pastBeats, .ref q_pastRhythm, .int u4, .ref q_imageBeats, .ref q_imageRhythm, .ref q_imageSeed, .ref q_isKept, .ref q_heardBeat, .ref q_heardStruck, .int v_heard, .ref q_text, .int v_textLong, .int v_faultAt, .int v_readBeats, .int v_readRhythm, .ref q_tilings, .int v_tilingMany, .int v_tiledBeats, .int v_tiledRhythm, .ref q_shifts, .ref q_struck, .ref q_chosen, .int v_leastSet, .int v_necklaceBy])), (q_pastBeats, .inl (cI, 30, .inl u5)), (q_pastRhythm, .inl (cI, 30, .inl u6))] := hD
    refine lv_aload_n hx hb dX10_twice_43 rfl (lv_at hl 1 rfl) ?_
    refine va_get (D := (dC, dI)) (ci := 7) (v := .int x7) (C := RX10) (T := TX10) (N := 27) hx hb hts iX10_twice_X10 hown hK hP 0 rfl rfl 0 (by decide) (hts (.fieldLink RX10 7 "TilingBeatsModel" "beats" "I") (by decide +kernel)) (fun _ h9 => h9) rfl dX10_twice_44 ?_
    exact W.iret (v := x7) hx hb hr (fun t ht hW => ⟨⟨_, (x7, u3, u4, u5, u6), rfl, h, by rw [ht]; exact hP, hD⟩, hS.F ht⟩) hS.2.2 dX10_twice_47
  · replace h := h.2 c1
    refine lv_ldc (v := (-1000000004)) hx hb hown (hts (.constant RX10 79 (-1000000004)) (by decide +kernel)) dX10_twice_11 ?_
    exact W.iret (v := (-1000000004)) hx hb hr (fun t ht hW => ⟨⟨_, (v_beats, v_rhythm, v_undone, f_pastBeats, f_pastRhythm), rfl, h, by rw [ht]; exact hP, hD⟩, hS.F ht⟩) hS.2.2 dX10_twice_13
