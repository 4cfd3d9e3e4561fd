def wp_X5_stepBack (v_next : Int32) (v_count : Int32) (p1 : Int32) (Q : Int32 → Int32 → Prop) : Prop := ∀ x1 : Int32, x1 = (v_next - p1) → ∀ x2 : Int32, x2 = (v_count - p1) → Q x1 x2
abbrev rmX5_stepBack : Room := { frames := 0, cells := 0, slots := 0, locals := 0 }
set_option maxRecDepth 20000 in
theorem iX5_stepBack_X5 : ∀ w ∈ wsX50, w ∈ wsX5_stepBack := by decide +kernel
set_option maxHeartbeats 4000000 in
set_option maxRecDepth 100000 in
theorem c_X5_stepBack (l : Launch) (dC : Nat → ClassId) (dI : Nat → Nat → Nat) (cI cZ : ClassId) (q0 q_beats q_rhythms : Nat) (sz : Nat) (v_next : Int32) (v_count : Int32) (p1 : Int32) (Q : Int32 → Int32 → Prop) (h : wp_X5_stepBack v_next v_count p1 Q) : Met l yX5_stepBack wsX5_stepBack (rmX5_stepBack) (va_Pc [.ref q0, .int p1] (fun U => U.heap.size = sz ∧ va_P (dC, dI) vwCl [(q0, .inr (3, [.ref q_beats, .ref q_rhythms, .int v_next, .int v_count]))] U.heap ∧ va_K (dC, dI) vwCl (tyZ cI cZ) U ∧ va_D (fun _ => True) [(q0, .inr (3, [.ref q_beats, .ref q_rhythms, .int v_next, .int v_count]))] ∧ nW U)) (va_Qv (fun (u : Int32 × Int32) => Q u.1 u.2) (fun (u : Int32 × Int32) (t : State) => va_P (dC, dI) vwCl [(q0, .inr (3, [.ref q_beats, .ref q_rhythms, .int u.1, .int u.2]))] t.heap ∧ va_D (va_A [(q0, .inr (3, [.ref q_beats, .ref q_rhythms, .int v_next, .int v_count]))] sz) [(q0, .inr (3, [.ref q_beats, .ref q_rhythms, .int u.1, .int u.2]))]) (va_A [(q0, .inr (3, [.ref q_beats, .ref q_rhythms, .int v_next, .int v_count]))] sz)) 0 0 (va_A [(q0, .inr (3, [.ref q_beats, .ref q_rhythms, .int v_next, .int v_count]))] sz) := by
  unfold wp_X5_stepBack at h
  refine Met.ofW (cc := cX5_stepBack) (maxL := 2) (ret := none) (by decide) rfl ?_
  intro p e s m args below meth c s₁ B hml hv
  obtain ⟨rfl, hsz, hP, hK, hD0, hN⟩ := hv
  have hx := B.exec
  have hb := B.bytes
  have hr := B.returns
  have hts := atoms_spec (ws := wsX5_stepBack) B.pre
  have hown : s.vm.findClass RX5 = some m.cls := findClass_of_methodNamed B.named
  have hlocks := B.notSynchronized
  subst hsz
  have hD := hD0.self (sz := s.heap.size)
  generalize hAe : va_A [(q0, .inr (3, [.ref q_beats, .ref q_rhythms, .int v_next, .int v_count]))] s.heap.size = A at hD ⊢
  have hA : ∀ q : Nat, s.heap.size ≤ q → A q := fun q h => by rw [← hAe]; exact Or.inr h
  clear hAe
  have hS : va_S A s.heap s.heap [] := va_S.rf
  have hl := lv_entry ([.ref q0, .int p1]) (n := 2) (Nat.le_of_ble_eq_true rfl)
  rw [lg_entry_eq]
  generalize (lg_sl ([.ref q0, .int p1]) ++ List.replicate (2 - (lg_sl ([.ref q0, .int p1])).length) Slot.unset).toArray = ls at hl ⊢
  have hl : lv_has ls 2 [(0, .ref q0), (1, .int p1)] := hl
  refine lv_aload_n hx hb dX5_stepBack_0 rfl (lv_at hl 0 rfl) ?_
  refine lv_dup hx hb dX5_stepBack_1 rfl ?_
  refine va_get (D := (dC, dI)) (ci := 3) (v := .int v_next) (C := RX5) (T := TX5) (N := 4) hx hb hts iX5_stepBack_X5 hown hK hP 0 rfl rfl 2 (by decide) (hts (.fieldLink RX5 21 "TilingBeats$Past" "next" "I") (by decide +kernel)) (fun _ h9 => h9) rfl dX5_stepBack_2 ?_
  refine lv_iload_n hx hb dX5_stepBack_5 rfl (lv_at hl 1 rfl) ?_
  refine lv_isub hx hb dX5_stepBack_6 ?_
  refine lv_topi (fun x1 ex1 => ?_)
  replace h := h x1 ex1
  refine va_put (D := (dC, dI)) (ci := 3) (v := .int x1) (ty := .int) (C := RX5) (T := TX5) (N := 4) hx hb hts iX5_stepBack_X5 tyX5 tyX5_ok nmX5 hown hK hP hD hS 0 rfl rfl 2 (by decide) (hts (.fieldLink RX5 21 "TilingBeats$Past" "next" "I") (by decide +kernel)) (fun _ h9 => h9) rfl (by decide +kernel) rfl rfl (Nat.le_of_ble_eq_true rfl) dX5_stepBack_7 (fun H locs hP hD hS => ?_)
  have hP : va_P (dC, dI) vwCl [(q0, .inr (3, [.ref q_beats, .ref q_rhythms, .int x1, .int v_count]))] H := hP
  have hD : va_D A [(q0, .inr (3, [.ref q_beats, .ref q_rhythms, .int x1, .int v_count]))] := hD
  refine lv_aload_n hx hb dX5_stepBack_10 rfl (lv_at hl 0 rfl) ?_
  refine lv_dup hx hb dX5_stepBack_11 rfl ?_
  refine va_get (D := (dC, dI)) (ci := 3) (v := .int v_count) (C := RX5) (T := TX5) (N := 4) hx hb hts iX5_stepBack_X5 hown hK hP 0 rfl rfl 3 (by decide) (hts (.fieldLink RX5 25 "TilingBeats$Past" "count" "I") (by decide +kernel)) (fun _ h9 => h9) rfl dX5_stepBack_12 ?_
  refine lv_iload_n hx hb dX5_stepBack_15 rfl (lv_at hl 1 rfl) ?_
  refine lv_isub hx hb dX5_stepBack_16 ?_
  refine lv_topi (fun x2 ex2 => ?_)
  replace h := h x2 ex2
  refine va_put (D := (dC, dI)) (ci := 3) (v := .int x2) (ty := .int) (C := RX5) (T := TX5) (N := 4) hx hb hts iX5_stepBack_X5 tyX5 tyX5_ok nmX5 hown hK hP hD hS 0 rfl rfl 3 (by decide) (hts (.fieldLink RX5 25 "TilingBeats$Past" "count" "I") (by decide +kernel)) (fun _ h9 => h9) rfl (by decide +kernel) rfl rfl (Nat.le_of_ble_eq_true rfl) dX5_stepBack_17 (fun H locs hP hD hS => ?_)
  have hP : va_P (dC, dI) vwCl [(q0, .inr (3, [.ref q_beats, .ref q_rhythms, .int x1, .int x2]))] H := hP
  have hD : va_D A [(q0, .inr (3, [.ref q_beats, .ref q_rhythms, .int x1, .int x2]))] := hD
  exact W.vret hx hb hr (fun t ht hW => ⟨⟨(x1, x2), rfl, h, by rw [ht]; exact hP, hD⟩, hS.F ht⟩) hS.2.2 dX5_stepBack_20

def wp_X5_beatsThen (v_next : Int32) (f_beats : (Nat → Int32)) (Q : Int32 → Prop) : Prop := wp_X5_place v_next fun (r1 : Int32) => vp_in r1 30 ∧ Q (f_beats (r1 : Int32).toNatClampNeg)
abbrev rmX5_beatsThen : Room := { frames := 2, cells := 0, slots := 0, locals := 42 }
set_option maxRecDepth 20000 in
theorem iX5_beatsThen_X5 : ∀ w ∈ wsX50, w ∈ wsX5_beatsThen := by decide +kernel
set_option maxHeartbeats 4000000 in
set_option maxRecDepth 100000 in
theorem c_X5_beatsThen (l : Launch) (dC : Nat → ClassId) (dI : Nat → Nat → Nat) (cI cZ : ClassId) (q0 q_beats q_rhythms : Nat) (v_next : Int32) (v_count : Int32) (f_beats : (Nat → Int32))  (Q : Int32 → Prop) (h : wp_X5_beatsThen v_next f_beats Q) : Met l yX5_beatsThen wsX5_beatsThen (rmX5_beatsThen) (va_Pc [.ref q0] (fun U => va_P (dC, dI) vwCl [(q0, .inr (3, [.ref q_beats, .ref q_rhythms, .int v_next, .int v_count])), (q_beats, .inl (cI, 30, .inl f_beats))] U.heap ∧ va_K (dC, dI) vwCl (tyZ cI cZ) U ∧ nW U)) (vp_Si Q) 0 0 (fun _ => False) := by
  unfold wp_X5_beatsThen at h
  refine Met.ofW (cc := cX5_beatsThen) (maxL := 1) (ret := (some .int)) (by decide) rfl ?_
  intro p e s m args below meth c s₁ B hml hv
  obtain ⟨rfl, hP, hK, hN⟩ := hv
  have hx := B.exec
  have hb := B.bytes
  have hr := B.returns
  have hts := atoms_spec (ws := wsX5_beatsThen) B.pre
  have hown : s.vm.findClass RX5 = some m.cls := findClass_of_methodNamed B.named
  have hlocks := B.notSynchronized
  have hl := lv_entry ([.ref q0]) (n := 1) (Nat.le_of_ble_eq_true rfl)
  rw [lg_entry_eq]
  generalize (lg_sl ([.ref q0]) ++ List.replicate (1 - (lg_sl ([.ref q0])).length) Slot.unset).toArray = ls at hl ⊢
  have hl : lv_has ls 1 [(0, .ref q0)] := hl
  refine lv_aload_n hx hb dX5_beatsThen_0 rfl (lv_at hl 0 rfl) ?_
  refine va_get (D := (dC, dI)) (ci := 3) (v := .ref q_beats) (C := RX5) (T := TX5) (N := 4) hx hb hts iX5_beatsThen_X5 hown hK hP 0 rfl rfl 0 (by decide) (hts (.fieldLink RX5 9 "TilingBeats$Past" "beats" "[I") (by decide +kernel)) (fun _ h9 => h9) rfl dX5_beatsThen_1 ?_
  refine lv_aload_n hx hb dX5_beatsThen_4 rfl (lv_at hl 0 rfl) ?_
  have hPc := hP.sub (ws' := [(q0, .inr (3, [.ref q_beats, .ref q_rhythms, .int v_next, .int v_count]))]) [0] rfl
  refine vs_calli (va_runV (As := []) (rest := [.ref q_beats]) ⟨hx, hb, hml, hown, hts⟩ (c_X5_place l dC dI cI cZ q0 q_beats q_rhythms v_next v_count  _ h) (cwV 0 hts gX5_beatsThen_X5_place rfl rfl rfl (by decide +kernel) ⟨Nat.le_of_ble_eq_true rfl, Nat.le_of_ble_eq_true rfl⟩) ⟨fun a U g mk q => ⟨q.1, q.2.1, va_K.moved (u := U) (U := U.calling g mk a) (Vm.Alike.refl U.vm) q.2.2.1, nW_call q.2.2.2⟩, va_recv hK hPc (ci := 3) (q0 := 0) rfl rfl, fun U hU hW => ⟨rfl, by rw [hU]; exact hPc, va_K.moved hW.alike hK, nW_warm hW hN⟩⟩ rfl rfl hl.1 rfl (lv_room (Nat.le_of_ble_eq_true rfl)) dX5_beatsThen_5 ⟨Nat.le_of_ble_eq_true rfl, Nat.le_of_ble_eq_true rfl⟩) (fun r1 h => ?_)
  refine va_iald (D := (dC, dI)) hx hb hK hP 1 0 rfl rfl h.1 dX5_beatsThen_8 ?_
  replace h := h.2
  exact W.iret (v := (f_beats (r1 : Int32).toNatClampNeg)) hx hb hr (fun t ht hW => ⟨_, rfl, h, ht⟩) (fun _ h => by cases h) dX5_beatsThen_9

def wp_X5_rhythmThen (v_next : Int32) (f_rhythms : (Nat → Int32)) (Q : Int32 → Prop) : Prop := wp_X5_place v_next fun (r1 : Int32) => vp_in r1 30 ∧ Q (f_rhythms (r1 : Int32).toNatClampNeg)
abbrev rmX5_rhythmThen : Room := { frames := 2, cells := 0, slots := 0, locals := 42 }
set_option maxRecDepth 20000 in
theorem iX5_rhythmThen_X5 : ∀ w ∈ wsX50, w ∈ wsX5_rhythmThen := by decide +kernel
set_option maxHeartbeats 4000000 in
set_option maxRecDepth 100000 in
theorem c_X5_rhythmThen (l : Launch) (dC : Nat → ClassId) (dI : Nat → Nat → Nat) (cI cZ : ClassId) (q0 q_beats q_rhythms : Nat) (v_next : Int32) (v_count : Int32) (f_rhythms : (Nat → Int32))  (Q : Int32 → Prop) (h : wp_X5_rhythmThen v_next f_rhythms Q) : Met l yX5_rhythmThen wsX5_rhythmThen (rmX5_rhythmThen) (va_Pc [.ref q0] (fun U => va_P (dC, dI) vwCl [(q0, .inr (3, [.ref q_beats, .ref q_rhythms, .int v_next, .int v_count])), (q_rhythms, .inl (cI, 30, .inl f_rhythms))] U.heap ∧ va_K (dC, dI) vwCl (tyZ cI cZ) U ∧ nW U)) (vp_Si Q) 0 0 (fun _ => False) := by
  unfold wp_X5_rhythmThen at h
  refine Met.ofW (cc := cX5_rhythmThen) (maxL := 1) (ret := (some .int)) (by decide) rfl ?_
  intro p e s m args below meth c s₁ B hml hv
  obtain ⟨rfl, hP, hK, hN⟩ := hv
  have hx := B.exec
  have hb := B.bytes
  have hr := B.returns
  have hts := atoms_spec (ws := wsX5_rhythmThen) B.pre
  have hown : s.vm.findClass RX5 = some m.cls := findClass_of_methodNamed B.named
  have hlocks := B.notSynchronized
  have hl := lv_entry ([.ref q0]) (n := 1) (Nat.le_of_ble_eq_true rfl)
  rw [lg_entry_eq]
  generalize (lg_sl ([.ref q0]) ++ List.replicate (1 - (lg_sl ([.ref q0])).length) Slot.unset).toArray = ls at hl ⊢
  have hl : lv_has ls 1 [(0, .ref q0)] := hl
  refine lv_aload_n hx hb dX5_rhythmThen_0 rfl (lv_at hl 0 rfl) ?_
  refine va_get (D := (dC, dI)) (ci := 3) (v := .ref q_rhythms) (C := RX5) (T := TX5) (N := 4) hx hb hts iX5_rhythmThen_X5 hown hK hP 0 rfl rfl 1 (by decide) (hts (.fieldLink RX5 15 "TilingBeats$Past" "rhythms" "[I") (by decide +kernel)) (fun _ h9 => h9) rfl dX5_rhythmThen_1 ?_
  refine lv_aload_n hx hb dX5_rhythmThen_4 rfl (lv_at hl 0 rfl) ?_
  have hPc := hP.sub (ws' := [(q0, .inr (3, [.ref q_beats, .ref q_rhythms, .int v_next, .int v_count]))]) [0] rfl
  refine vs_calli (va_runV (As := []) (rest := [.ref q_rhythms]) ⟨hx, hb, hml, hown, hts⟩ (c_X5_place l dC dI cI cZ q0 q_beats q_rhythms v_next v_count  _ h) (cwV 0 hts gX5_rhythmThen_X5_place rfl rfl rfl (by decide +kernel) ⟨Nat.le_of_ble_eq_true rfl, Nat.le_of_ble_eq_true rfl⟩) ⟨fun a U g mk q => ⟨q.1, q.2.1, va_K.moved (u := U) (U := U.calling g mk a) (Vm.Alike.refl U.vm) q.2.2.1, nW_call q.2.2.2⟩, va_recv hK hPc (ci := 3) (q0 := 0) rfl rfl, fun U hU hW => ⟨rfl, by rw [hU]; exact hPc, va_K.moved hW.alike hK, nW_warm hW hN⟩⟩ rfl rfl hl.1 rfl (lv_room (Nat.le_of_ble_eq_true rfl)) dX5_rhythmThen_5 ⟨Nat.le_of_ble_eq_true rfl, Nat.le_of_ble_eq_true rfl⟩) (fun r1 h => ?_)
  refine va_iald (D := (dC, dI)) hx hb hK hP 1 0 rfl rfl h.1 dX5_rhythmThen_8 ?_
  replace h := h.2
  exact W.iret (v := (f_rhythms (r1 : Int32).toNatClampNeg)) hx hb hr (fun t ht hW => ⟨_, rfl, h, ht⟩) (fun _ h => by cases h) dX5_rhythmThen_9

def wp_X7_clear (v_count : Int32) (Q : Int32 → Prop) : Prop := Q 0
abbrev rmX7_clear : Room := { frames := 0, cells := 0, slots := 0, locals := 0 }
set_option maxRecDepth 20000 in
theorem iX7_clear_X7 : ∀ w ∈ wsX70, w ∈ wsX7_clear := by decide +kernel
set_option maxHeartbeats 4000000 in
set_option maxRecDepth 100000 in
theorem c_X7_clear (l : Launch) (dC : Nat → ClassId) (dI : Nat → Nat → Nat) (cI cZ : ClassId) (q0 q_letters : Nat) (sz : Nat) (v_count : Int32) (v_beats : Int32) (v_set : Int32) (v_times : Int32) (v_faultAt : Int32)  (Q : Int32 → Prop) (h : wp_X7_clear v_count Q) : Met l yX7_clear wsX7_clear (rmX7_clear) (va_Pc [.ref q0] (fun U => U.heap.size = sz ∧ va_P (dC, dI) vwCl [(q0, .inr (4, [.ref q_letters, .int v_count, .int v_beats, .int v_set, .int v_times, .int v_faultAt]))] U.heap ∧ va_K (dC, dI) vwCl (tyZ cI cZ) U ∧ va_D (fun _ => True) [(q0, .inr (4, [.ref q_letters, .int v_count, .int v_beats, .int v_set, .int v_times, .int v_faultAt]))] ∧ nW U)) (va_Qv (fun (u : Int32) => Q u) (fun (u : Int32) (t : State) => va_P (dC, dI) vwCl [(q0, .inr (4, [.ref q_letters, .int u, .int v_beats, .int v_set, .int v_times, .int v_faultAt]))] t.heap ∧ va_D (va_A [(q0, .inr (4, [.ref q_letters, .int v_count, .int v_beats, .int v_set, .int v_times, .int v_faultAt]))] sz) [(q0, .inr (4, [.ref q_letters, .int u, .int v_beats, .int v_set, .int v_times, .int v_faultAt]))]) (va_A [(q0, .inr (4, [.ref q_letters, .int v_count, .int v_beats, .int v_set, .int v_times, .int v_faultAt]))] sz)) 0 0 (va_A [(q0, .inr (4, [.ref q_letters, .int v_count, .int v_beats, .int v_set, .int v_times, .int v_faultAt]))] sz) := by
  unfold wp_X7_clear at h
  refine Met.ofW (cc := cX7_clear) (maxL := 1) (ret := none) (by decide) rfl ?_
  intro p e s m args below meth c s₁ B hml hv
  obtain ⟨rfl, hsz, hP, hK, hD0, hN⟩ := hv
  have hx := B.exec
  have hb := B.bytes
  have hr := B.returns
  have hts := atoms_spec (ws := wsX7_clear) B.pre
  have hown : s.vm.findClass RX7 = some m.cls := findClass_of_methodNamed B.named
  have hlocks := B.notSynchronized
  subst hsz
  have hD := hD0.self (sz := s.heap.size)
  generalize hAe : va_A [(q0, .inr (4, [.ref q_letters, .int v_count, .int v_beats, .int v_set, .int v_times, .int v_faultAt]))] s.heap.size = A at hD ⊢
  have hA : ∀ q : Nat, s.heap.size ≤ q → A q := fun q h => by rw [← hAe]; exact Or.inr h
  clear hAe
  have hS : va_S A s.heap s.heap [] := va_S.rf
  have hl := lv_entry ([.ref q0]) (n := 1) (Nat.le_of_ble_eq_true rfl)
  rw [lg_entry_eq]
  generalize (lg_sl ([.ref q0]) ++ List.replicate (1 - (lg_sl ([.ref q0])).length) Slot.unset).toArray = ls at hl ⊢
  have hl : lv_has ls 1 [(0, .ref q0)] := hl
  refine lv_aload_n hx hb dX7_clear_0 rfl (lv_at hl 0 rfl) ?_
  refine lv_iconst (v := 0) hx hb dX7_clear_1 (by decide) ?_
  refine va_put (D := (dC, dI)) (ci := 4) (v := .int 0) (ty := .int) (C := RX7) (T := TX7) (N := 6) hx hb hts iX7_clear_X7 tyX7 tyX7_ok nmX7 hown hK hP hD hS 0 rfl rfl 1 (by decide) (hts (.fieldLink RX7 18 "TilingBeats$Text" "count" "I") (by decide +kernel)) (fun _ h9 => h9) rfl (by decide +kernel) rfl rfl (Nat.le_of_ble_eq_true rfl) dX7_clear_2 (fun H locs hP hD hS => ?_)
  have hP : va_P (dC, dI) vwCl [(q0, .inr (4, [.ref q_letters, .int 0, .int v_beats, .int v_set, .int v_times, .int v_faultAt]))] H := hP
  have hD : va_D A [(q0, .inr (4, [.ref q_letters, .int 0, .int v_beats, .int v_set, .int v_times, .int v_faultAt]))] := hD
  exact W.vret hx hb hr (fun t ht hW => ⟨⟨0, rfl, h, by rw [ht]; exact hP, hD⟩, hS.F ht⟩) hS.2.2 dX7_clear_5

def wp_X7_append_j19 (Q : Int32 → Int32 → (Nat → Int32) → Prop) (v_count : Int32) (f_letters : (Nat → Int32)) : Prop := Q (-1000000004) v_count f_letters
def wp_X7_append (v_count : Int32) (f_letters : (Nat → Int32)) (p1 : Int32) (Q : Int32 → Int32 → (Nat → Int32) → Prop) : Prop := (v_count < 0 → (wp_X7_append_j19 Q v_count f_letters)) ∧ (¬ v_count < 0 → ((v_count < (Int32.ofNat 60) → (vp_in v_count 60 ∧ ∀ g3 : Nat → Int32, g3 = upd f_letters (v_count : Int32).toNatClampNeg p1 → ∀ x4 : Int32, x4 = (v_count + 1) → Q x4 x4 g3)) ∧ (¬ v_count < (Int32.ofNat 60) → (wp_X7_append_j19 Q v_count f_letters))))
abbrev rmX7_append : Room := { frames := 0, cells := 0, slots := 0, locals := 0 }
set_option maxRecDepth 20000 in
theorem iX7_append_X7 : ∀ w ∈ wsX70, w ∈ wsX7_append := by decide +kernel
set_option maxHeartbeats 4000000 in
set_option maxRecDepth 100000 in
theorem c_X7_append (l : Launch) (dC : Nat → ClassId) (dI : Nat → Nat → Nat) (cI cZ : ClassId) (q0 q_letters : Nat) (sz : Nat) (v_count : Int32) (v_beats : Int32) (v_set : Int32) (v_times : Int32) (v_faultAt : Int32) (f_letters : (Nat → Int32)) (p1 : Int32) (Q : Int32 → Int32 → (Nat → Int32) → Prop) (h : wp_X7_append v_count f_letters p1 Q) : Met l yX7_append wsX7_append (rmX7_append) (va_Pc [.ref q0, .int p1] (fun U => U.heap.size = sz ∧ va_P (dC, dI) vwCl [(q0, .inr (4, [.ref q_letters, .int v_count, .int v_beats, .int v_set, .int v_times, .int v_faultAt])), (q_letters, .inl (cI, 60, .inl f_letters))] U.heap ∧ va_K (dC, dI) vwCl (tyZ cI cZ) U ∧ va_D (fun _ => True) [(q0, .inr (4, [.ref q_letters, .int v_count, .int v_beats, .int v_set, .int v_times, .int v_faultAt])), (q_letters, .inl (cI, 60, .inl f_letters))] ∧ nW U)) (va_Qi (fun (r : Int32) (u : Int32 × (Nat → Int32)) => Q r u.1 u.2) (fun (u : Int32 × (Nat → Int32)) (t : State) => va_P (dC, dI) vwCl [(q0, .inr (4, [.ref q_letters, .int u.1, .int v_beats, .int v_set, .int v_times, .int v_faultAt])), (q_letters, .inl (cI, 60, .inl u.2))] t.heap ∧ va_D (va_A [(q0, .inr (4, [.ref q_letters, .int v_count, .int v_beats, .int v_set, .int v_times, .int v_faultAt])), (q_letters, .inl (cI, 60, .inl f_letters))] sz) [(q0, .inr (4, [.ref q_letters, .int u.1, .int v_beats, .int v_set, .int v_times, .int v_faultAt])), (q_letters, .inl (cI, 60, .inl u.2))]) (va_A [(q0, .inr (4, [.ref q_letters, .int v_count, .int v_beats, .int v_set, .int v_times, .int v_faultAt])), (q_letters, .inl (cI, 60, .inl f_letters))] sz)) 0 0 (va_A [(q0, .inr (4, [.ref q_letters, .int v_count, .int v_beats, .int v_set, .int v_times, .int v_faultAt])), (q_letters, .inl (cI, 60, .inl f_letters))] sz) := by
  unfold wp_X7_append at h
  refine Met.ofW (cc := cX7_append) (maxL := 2) (ret := (some .int)) (by decide) rfl ?_
  intro p e s m args below meth c s₁ B hml hv
  obtain ⟨rfl, hsz, hP, hK, hD0, hN⟩ := hv
  have hx := B.exec
  have hb := B.bytes
  have hr := B.returns
  have hts := atoms_spec (ws := wsX7_append) B.pre
  have hown : s.vm.findClass RX7 = some m.cls := findClass_of_methodNamed B.named
  have hlocks := B.notSynchronized
  subst hsz
  have hD := hD0.self (sz := s.heap.size)
  generalize hAe : va_A [(q0, .inr (4, [.ref q_letters, .int v_count, .int v_beats, .int v_set, .int v_times, .int v_faultAt])), (q_letters, .inl (cI, 60, .inl f_letters))] s.heap.size = A at hD ⊢
  have hA : ∀ q : Nat, s.heap.size ≤ q → A q := fun q h => by rw [← hAe]; exact Or.inr h
  clear hAe
  have hS : va_S A s.heap s.heap [] := va_S.rf
  have w19 : ∀ (v_count : Int32) (f_letters : (Nat → Int32)), wp_X7_append_j19 Q v_count f_letters → ∀ (H : Heap) (locs : List Loc) (ls : Array Slot), va_P (dC, dI) vwCl [(q0, .inr (4, [.ref q_letters, .int v_count, .int v_beats, .int v_set, .int v_times, .int v_faultAt])), (q_letters, .inl (cI, 60, .inl f_letters))] H → va_D A [(q0, .inr (4, [.ref q_letters, .int v_count, .int v_beats, .int v_set, .int v_times, .int v_faultAt])), (q_letters, .inl (cI, 60, .inl f_letters))] → va_S A s.heap H locs → lv_has ls 2 [] → W p l e (headSpec wsX7_append (rmX7_append)).room s m ([.ref q0, .int p1] : List Value).toArray below meth c H locs 0 0 (MQ below (va_Qi (fun (r : Int32) (u : Int32 × (Nat → Int32)) => Q r u.1 u.2) (fun (u : Int32 × (Nat → Int32)) (t : State) => va_P (dC, dI) vwCl [(q0, .inr (4, [.ref q_letters, .int u.1, .int v_beats, .int v_set, .int v_times, .int v_faultAt])), (q_letters, .inl (cI, 60, .inl u.2))] t.heap ∧ va_D A [(q0, .inr (4, [.ref q_letters, .int u.1, .int v_beats, .int v_set, .int v_times, .int v_faultAt])), (q_letters, .inl (cI, 60, .inl u.2))]) A) ([.ref q0, .int p1] : List Value).toArray s 0 0 A) (F0 m 19 ls []) := by
    intro v_count f_letters h H locs ls hP hD hS hl
    unfold wp_X7_append_j19 at h
    refine lv_ldc (v := (-1000000004)) hx hb hown (hts (.constant RX7 22 (-1000000004)) (by decide +kernel)) dX7_append_19 ?_
    exact W.iret (v := (-1000000004)) hx hb hr (fun t ht hW => ⟨⟨_, (v_count, f_letters), rfl, h, by rw [ht]; exact hP, hD⟩, hS.F ht⟩) hS.2.2 dX7_append_21
  have hl := lv_entry ([.ref q0, .int p1]) (n := 2) (Nat.le_of_ble_eq_true rfl)
  rw [lg_entry_eq]
  generalize (lg_sl ([.ref q0, .int p1]) ++ List.replicate (2 - (lg_sl ([.ref q0, .int p1])).length) Slot.unset).toArray = ls at hl ⊢
  have hl : lv_has ls 2 [(0, .ref q0), (1, .int p1)] := hl
  refine lv_aload_n hx hb dX7_append_0 rfl (lv_at hl 0 rfl) ?_
  refine va_get (D := (dC, dI)) (ci := 4) (v := .int v_count) (C := RX7) (T := TX7) (N := 6) hx hb hts iX7_append_X7 hown hK hP 0 rfl rfl 1 (by decide) (hts (.fieldLink RX7 18 "TilingBeats$Text" "count" "I") (by decide +kernel)) (fun _ h9 => h9) rfl dX7_append_1 ?_
  refine lv_if_lt (tgt := 19) hx hb dX7_append_4 (by decide) (fun c1 => ?_) (fun c1 => ?_)
  · replace h := h.1 c1
    exact w19 v_count f_letters h s.heap [] ls hP hD hS (lv_sub hl [] rfl)
  · replace h := h.2 c1
    refine lv_aload_n hx hb dX7_append_7 rfl (lv_at hl 0 rfl) ?_
    refine va_get (D := (dC, dI)) (ci := 4) (v := .int v_count) (C := RX7) (T := TX7) (N := 6) hx hb hts iX7_append_X7 hown hK hP 0 rfl rfl 1 (by decide) (hts (.fieldLink RX7 18 "TilingBeats$Text" "count" "I") (by decide +kernel)) (fun _ h9 => h9) rfl dX7_append_8 ?_
    refine lv_aload_n hx hb dX7_append_11 rfl (lv_at hl 0 rfl) ?_
    refine va_get (D := (dC, dI)) (ci := 4) (v := .ref q_letters) (C := RX7) (T := TX7) (N := 6) hx hb hts iX7_append_X7 hown hK hP 0 rfl rfl 0 (by decide) (hts (.fieldLink RX7 9 "TilingBeats$Text" "letters" "[I") (by decide +kernel)) (fun _ h9 => h9) rfl dX7_append_12 ?_
    refine va_alen (D := (dC, dI)) (v := (Int32.ofNat 60)) hx hb hK hP 1 0 rfl rfl rfl dX7_append_15 ?_
    refine lv_icmp_lt (tgt := 22) hx hb dX7_append_16 (by decide) (fun c2 => ?_) (fun c2 => ?_)
    · replace h := h.1 c2
      refine lv_aload_n hx hb dX7_append_22 rfl (lv_at hl 0 rfl) ?_
      refine va_get (D := (dC, dI)) (ci := 4) (v := .ref q_letters) (C := RX7) (T := TX7) (N := 6) hx hb hts iX7_append_X7 hown hK hP 0 rfl rfl 0 (by decide) (hts (.fieldLink RX7 9 "TilingBeats$Text" "letters" "[I") (by decide +kernel)) (fun _ h9 => h9) rfl dX7_append_23 ?_
      refine lv_aload_n hx hb dX7_append_26 rfl (lv_at hl 0 rfl) ?_
      refine va_get (D := (dC, dI)) (ci := 4) (v := .int v_count) (C := RX7) (T := TX7) (N := 6) hx hb hts iX7_append_X7 hown hK hP 0 rfl rfl 1 (by decide) (hts (.fieldLink RX7 18 "TilingBeats$Text" "count" "I") (by decide +kernel)) (fun _ h9 => h9) rfl dX7_append_27 ?_
      refine lv_iload_n hx hb dX7_append_30 rfl (lv_at hl 1 rfl) ?_
      refine va_iast (D := (dC, dI)) hx hb hK hP hD hS 1 0 rfl rfl h.1 dX7_append_31 (fun H locs hP hD hS => ?_)
      obtain ⟨g3, eg3⟩ : ∃ y : Nat → Int32, y = upd f_letters (v_count : Int32).toNatClampNeg p1 := ⟨_, rfl⟩
      replace h := h.2 g3 eg3
      rw [← eg3] at hP hD
      have hP : va_P (dC, dI) vwCl [(q0, .inr (4, [.ref q_letters, .int v_count, .int v_beats, .int v_set, .int v_times, .int v_faultAt])), (q_letters, .inl (cI, 60, .inl g3))] H := hP
      have hD : va_D A [(q0, .inr (4, [.ref q_letters, .int v_count, .int v_beats, .int v_set, .int v_times, .int v_faultAt])), (q_letters, .inl (cI, 60, .inl g3))] := hD
      refine lv_aload_n hx hb dX7_append_32 rfl (lv_at hl 0 rfl) ?_
      refine lv_dup hx hb dX7_append_33 rfl ?_
      refine va_get (D := (dC, dI)) (ci := 4) (v := .int v_count) (C := RX7) (T := TX7) (N := 6) hx hb hts iX7_append_X7 hown hK hP 0 rfl rfl 1 (by decide) (hts (.fieldLink RX7 18 "TilingBeats$Text" "count" "I") (by decide +kernel)) (fun _ h9 => h9) rfl dX7_append_34 ?_
      refine lv_iconst (v := 1) hx hb dX7_append_37 (by decide) ?_
      refine lv_iadd hx hb dX7_append_38 ?_
      refine lv_topi (fun x4 ex4 => ?_)
      replace h := h x4 ex4
      refine va_put (D := (dC, dI)) (ci := 4) (v := .int x4) (ty := .int) (C := RX7) (T := TX7) (N := 6) hx hb hts iX7_append_X7 tyX7 tyX7_ok nmX7 hown hK hP hD hS 0 rfl rfl 1 (by decide) (hts (.fieldLink RX7 18 "TilingBeats$Text" "count" "I") (by decide +kernel)) (fun _ h9 => h9) rfl (by decide +kernel) rfl rfl (Nat.le_of_ble_eq_true rfl) dX7_append_39 (fun H locs hP hD hS => ?_)
      have hP : va_P (dC, dI) vwCl [(q0, .inr (4, [.ref q_letters, .int x4, .int v_beats, .int v_set, .int v_times, .int v_faultAt])), (q_letters, .inl (cI, 60, .inl g3))] H := hP
      have hD : va_D A [(q0, .inr (4, [.ref q_letters, .int x4, .int v_beats, .int v_set, .int v_times, .int v_faultAt])), (q_letters, .inl (cI, 60, .inl g3))] := hD
      refine lv_aload_n hx hb dX7_append_42 rfl (lv_at hl 0 rfl) ?_
      refine va_get (D := (dC, dI)) (ci := 4) (v := .int x4) (C := RX7) (T := TX7) (N := 6) hx hb hts iX7_append_X7 hown hK hP 0 rfl rfl 1 (by decide) (hts (.fieldLink RX7 18 "TilingBeats$Text" "count" "I") (by decide +kernel)) (fun _ h9 => h9) rfl dX7_append_43 ?_
      exact W.iret (v := x4) hx hb hr (fun t ht hW => ⟨⟨_, (x4, g3), rfl, h, by rw [ht]; exact hP, hD⟩, hS.F ht⟩) hS.2.2 dX7_append_46
    · replace h := h.2 c2
      exact w19 v_count f_letters h s.heap [] ls hP hD hS (lv_sub hl [] rfl)

def wp_X7_letterAt_j31 (v_count : Int32) (f_letters : (Nat → Int32)) (Q : Int32 → Prop) (s0 : Int32) : Prop := Q s0
def wp_X7_letterAt_j21 (v_count : Int32) (f_letters : (Nat → Int32)) (Q : Int32 → Prop)  : Prop := wp_X7_letterAt_j31 v_count f_letters Q (-1)
def wp_X7_letterAt (v_count : Int32) (f_letters : (Nat → Int32)) (p1 : Int32) (Q : Int32 → Prop) : Prop := (p1 < 0 → (wp_X7_letterAt_j21 v_count f_letters Q )) ∧ (¬ p1 < 0 → ((v_count ≤ p1 → (wp_X7_letterAt_j21 v_count f_letters Q )) ∧ (¬ v_count ≤ p1 → ((p1 < (Int32.ofNat 60) → (vp_in p1 60 ∧ wp_X7_letterAt_j31 v_count f_letters Q (f_letters (p1 : Int32).toNatClampNeg))) ∧ (¬ p1 < (Int32.ofNat 60) → (wp_X7_letterAt_j21 v_count f_letters Q ))))))
abbrev rmX7_letterAt : Room := { frames := 0, cells := 0, slots := 0, locals := 0 }
set_option maxRecDepth 20000 in
theorem iX7_letterAt_X7 : ∀ w ∈ wsX70, w ∈ wsX7_letterAt := by decide +kernel
set_option maxHeartbeats 4000000 in
set_option maxRecDepth 100000 in
theorem c_X7_letterAt (l : Launch) (dC : Nat → ClassId) (dI : Nat → Nat → Nat) (cI cZ : ClassId) (q0 q_letters : Nat) (v_count : Int32) (v_beats : Int32) (v_set : Int32) (v_times : Int32) (v_faultAt : Int32) (f_letters : (Nat → Int32)) (p1 : Int32) (Q : Int32 → Prop) (h : wp_X7_letterAt v_count f_letters p1 Q) : Met l yX7_letterAt wsX7_letterAt (rmX7_letterAt) (va_Pc [.ref q0, .int p1] (fun U => va_P (dC, dI) vwCl [(q0, .inr (4, [.ref q_letters, .int v_count, .int v_beats, .int v_set, .int v_times, .int v_faultAt])), (q_letters, .inl (cI, 60, .inl f_letters))] U.heap ∧ va_K (dC, dI) vwCl (tyZ cI cZ) U ∧ nW U)) (vp_Si Q) 0 0 (fun _ => False) := by
  unfold wp_X7_letterAt at h
  refine Met.ofW (cc := cX7_letterAt) (maxL := 2) (ret := (some .int)) (by decide) rfl ?_
  intro p e s m args below meth c s₁ B hml hv
  obtain ⟨rfl, hP, hK, hN⟩ := hv
  have hx := B.exec
  have hb := B.bytes
  have hr := B.returns
  have hts := atoms_spec (ws := wsX7_letterAt) B.pre
  have hown : s.vm.findClass RX7 = some m.cls := findClass_of_methodNamed B.named
  have hlocks := B.notSynchronized
  have w31 : ∀ (s0 : Int32), wp_X7_letterAt_j31 v_count f_letters Q s0 → ∀ (ls : Array Slot), lv_has ls 2 [] → W p l e (headSpec wsX7_letterAt (rmX7_letterAt)).room s m ([.ref q0, .int p1] : List Value).toArray below meth c s.heap [] 0 0 (MQ below (vp_Si Q) ([.ref q0, .int p1] : List Value).toArray s 0 0 (fun _ => False)) (F0 m 31 ls [.int s0]) := by
    intro s0 h ls hl
    unfold wp_X7_letterAt_j31 at h
    exact W.iret (v := s0) hx hb hr (fun t ht hW => ⟨_, rfl, h, ht⟩) (fun _ h => by cases h) dX7_letterAt_31
  have w21 : wp_X7_letterAt_j21 v_count f_letters Q → ∀ (ls : Array Slot), lv_has ls 2 [] → W p l e (headSpec wsX7_letterAt (rmX7_letterAt)).room s m ([.ref q0, .int p1] : List Value).toArray below meth c s.heap [] 0 0 (MQ below (vp_Si Q) ([.ref q0, .int p1] : List Value).toArray s 0 0 (fun _ => False)) (F0 m 21 ls []) := by
    intro  h ls hl
    unfold wp_X7_letterAt_j21 at h
    refine lv_iconst (v := (-1)) hx hb dX7_letterAt_21 (by decide) ?_
    refine lv_goto (tgt := 31) hx hb dX7_letterAt_22 (by decide) ?_
    exact w31 (-1) h ls (lv_sub hl [] rfl)
  have hl := lv_entry ([.ref q0, .int p1]) (n := 2) (Nat.le_of_ble_eq_true rfl)
  rw [lg_entry_eq]
  generalize (lg_sl ([.ref q0, .int p1]) ++ List.replicate (2 - (lg_sl ([.ref q0, .int p1])).length) Slot.unset).toArray = ls at hl ⊢
  have hl : lv_has ls 2 [(0, .ref q0), (1, .int p1)] := hl
  refine lv_iload_n hx hb dX7_letterAt_0 rfl (lv_at hl 1 rfl) ?_
  refine lv_if_lt (tgt := 21) hx hb dX7_letterAt_1 (by decide) (fun c1 => ?_) (fun c1 => ?_)
  · replace h := h.1 c1
    exact w21  h ls (lv_sub hl [] rfl)
  · replace h := h.2 c1
    refine lv_iload_n hx hb dX7_letterAt_4 rfl (lv_at hl 1 rfl) ?_
    refine lv_aload_n hx hb dX7_letterAt_5 rfl (lv_at hl 0 rfl) ?_
    refine va_get (D := (dC, dI)) (ci := 4) (v := .int v_count) (C := RX7) (T := TX7) (N := 6) hx hb hts iX7_letterAt_X7 hown hK hP 0 rfl rfl 1 (by decide) (hts (.fieldLink RX7 18 "TilingBeats$Text" "count" "I") (by decide +kernel)) (fun _ h9 => h9) rfl dX7_letterAt_6 ?_
    refine lv_icmp_ge (tgt := 21) hx hb dX7_letterAt_9 (by decide) (fun c2 => ?_) (fun c2 => ?_)
    · replace h := h.1 c2
      exact w21  h ls (lv_sub hl [] rfl)
    · replace h := h.2 c2
      refine lv_iload_n hx hb dX7_letterAt_12 rfl (lv_at hl 1 rfl) ?_
      refine lv_aload_n hx hb dX7_letterAt_13 rfl (lv_at hl 0 rfl) ?_
      refine va_get (D := (dC, dI)) (ci := 4) (v := .ref q_letters) (C := RX7) (T := TX7) (N := 6) hx hb hts iX7_letterAt_X7 hown hK hP 0 rfl rfl 0 (by decide) (hts (.fieldLink RX7 9 "TilingBeats$Text" "letters" "[I") (by decide +kernel)) (fun _ h9 => h9) rfl dX7_letterAt_14 ?_
      refine va_alen (D := (dC, dI)) (v := (Int32.ofNat 60)) hx hb hK hP 1 0 rfl rfl rfl dX7_letterAt_17 ?_
      refine lv_icmp_lt (tgt := 25) hx hb dX7_letterAt_18 (by decide) (fun c3 => ?_) (fun c3 => ?_)
      · replace h := h.1 c3
        refine lv_aload_n hx hb dX7_letterAt_25 rfl (lv_at hl 0 rfl) ?_
        refine va_get (D := (dC, dI)) (ci := 4) (v := .ref q_letters) (C := RX7) (T := TX7) (N := 6) hx hb hts iX7_letterAt_X7 hown hK hP 0 rfl rfl 0 (by decide) (hts (.fieldLink RX7 9 "TilingBeats$Text" "letters" "[I") (by decide +kernel)) (fun _ h9 => h9) rfl dX7_letterAt_26 ?_
        refine lv_iload_n hx hb dX7_letterAt_29 rfl (lv_at hl 1 rfl) ?_
        refine va_iald (D := (dC, dI)) hx hb hK hP 1 0 rfl rfl h.1 dX7_letterAt_30 ?_
        replace h := h.2
        exact w31 (f_letters (p1 : Int32).toNatClampNeg) h ls (lv_sub hl [] rfl)
      · replace h := h.2 c3
        exact w21  h ls (lv_sub hl [] rfl)

def wp_X7_figuresFrom_j36 (v_count : Int32) (f_letters : (Nat → Int32)) (Q : Int32 → Prop) (l1 : Int32) (l2 : Int32) : Prop := Q (l2 - l1)
def wp_X7_figuresFrom_h2 (v_count : Int32) (f_letters : (Nat → Int32)) (Q : Int32 → Prop) : Nat → Int32 → Int32 → Prop
  | 0, _, _ => False
  | z2 + 1, l1, l2 => (v_count ≤ l2 → (wp_X7_figuresFrom_j36 v_count f_letters Q l1 l2)) ∧ (¬ v_count ≤ l2 → (wp_X7_letterAt v_count f_letters l2 fun (r2 : Int32) => (r2 < 48 → (wp_X7_figuresFrom_j36 v_count f_letters Q l1 l2)) ∧ (¬ r2 < 48 → (wp_X7_letterAt v_count f_letters l2 fun (r4 : Int32) => (57 < r4 → (wp_X7_figuresFrom_j36 v_count f_letters Q l1 l2)) ∧ (¬ 57 < r4 → (∀ x6 : Int32, x6 = l2 + 1 → (wp_X7_figuresFrom_h2 v_count f_letters Q z2) l1 x6))))))
def wp_X7_figuresFrom (v_count : Int32) (f_letters : (Nat → Int32)) (p1 : Int32) (Q : Int32 → Prop) : Prop := ∃ k7 : Nat, wp_X7_figuresFrom_h2 v_count f_letters Q k7 p1 p1
abbrev rmX7_figuresFrom : Room := { frames := 1, cells := 0, slots := 0, locals := 21 }
set_option maxRecDepth 20000 in
theorem iX7_figuresFrom_X7 : ∀ w ∈ wsX70, w ∈ wsX7_figuresFrom := by decide +kernel
set_option maxHeartbeats 4000000 in
set_option maxRecDepth 100000 in
theorem c_X7_figuresFrom (l : Launch) (dC : Nat → ClassId) (dI : Nat → Nat → Nat) (cI cZ : ClassId) (q0 q_letters : Nat) (v_count : Int32) (v_beats : Int32) (v_set : Int32) (v_times : Int32) (v_faultAt : Int32) (f_letters : (Nat → Int32)) (p1 : Int32) (Q : Int32 → Prop) (h : wp_X7_figuresFrom v_count f_letters p1 Q) : Met l yX7_figuresFrom wsX7_figuresFrom (rmX7_figuresFrom) (va_Pc [.ref q0, .int p1] (fun U => va_P (dC, dI) vwCl [(q0, .inr (4, [.ref q_letters, .int v_count, .int v_beats, .int v_set, .int v_times, .int v_faultAt])), (q_letters, .inl (cI, 60, .inl f_letters))] U.heap ∧ va_K (dC, dI) vwCl (tyZ cI cZ) U ∧ nW U)) (vp_Si Q) 0 0 (fun _ => False) := by
  unfold wp_X7_figuresFrom at h
  refine Met.ofW (cc := cX7_figuresFrom) (maxL := 3) (ret := (some .int)) (by decide) rfl ?_
  intro p e s m args below meth c s₁ B hml hv
  obtain ⟨rfl, hP, hK, hN⟩ := hv
  have hx := B.exec
  have hb := B.bytes
  have hr := B.returns
  have hts := atoms_spec (ws := wsX7_figuresFrom) B.pre
  have hown : s.vm.findClass RX7 = some m.cls := findClass_of_methodNamed B.named
  have hlocks := B.notSynchronized
  have w36 : ∀ (l1 : Int32) (l2 : Int32), wp_X7_figuresFrom_j36 v_count f_letters Q l1 l2 → ∀ (ls : Array Slot), lv_has ls 3 [(1, .int l1), (2, .int l2)] → W p l e (headSpec wsX7_figuresFrom (rmX7_figuresFrom)).room s m ([.ref q0, .int p1] : List Value).toArray below meth c s.heap [] 0 0 (MQ below (vp_Si Q) ([.ref q0, .int p1] : List Value).toArray s 0 0 (fun _ => False)) (F0 m 36 ls []) := by
    intro l1 l2 h ls hl
    unfold wp_X7_figuresFrom_j36 at h
    refine lv_iload_n hx hb dX7_figuresFrom_36 rfl (lv_at hl 1 rfl) ?_
    refine lv_iload_n hx hb dX7_figuresFrom_37 rfl (lv_at hl 0 rfl) ?_
    refine lv_isub hx hb dX7_figuresFrom_38 ?_
    exact W.iret (v := (l2 - l1)) hx hb hr (fun t ht hW => ⟨_, rfl, h, ht⟩) (fun _ h => by cases h) dX7_figuresFrom_39
  have w2 : ∀ (z2 : Nat) (l1 : Int32) (l2 : Int32), wp_X7_figuresFrom_h2 v_count f_letters Q z2 l1 l2 → ∀ (ls : Array Slot), lv_has ls 3 [(0, .ref q0), (1, .int l1), (2, .int l2)] → W p l e (headSpec wsX7_figuresFrom (rmX7_figuresFrom)).room s m ([.ref q0, .int p1] : List Value).toArray below meth c s.heap [] 0 0 (MQ below (vp_Si Q) ([.ref q0, .int p1] : List Value).toArray s 0 0 (fun _ => False)) (F0 m 2 ls []) := by
    intro z2
    induction z2 with
    | zero => intro l1 l2 h; unfold wp_X7_figuresFrom_h2 at h; exact h.elim
    | succ z2 k2 =>
      intro l1 l2 h ls hl
      unfold wp_X7_figuresFrom_h2 at h
      refine lv_iload_n hx hb dX7_figuresFrom_2 rfl (lv_at hl 2 rfl) ?_
      refine lv_aload_n hx hb dX7_figuresFrom_3 rfl (lv_at hl 0 rfl) ?_
      refine va_get (D := (dC, dI)) (ci := 4) (v := .int v_count) (C := RX7) (T := TX7) (N := 6) hx hb hts iX7_figuresFrom_X7 hown hK hP 0 rfl rfl 1 (by decide) (hts (.fieldLink RX7 18 "TilingBeats$Text" "count" "I") (by decide +kernel)) (fun _ h9 => h9) rfl dX7_figuresFrom_4 ?_
      refine lv_icmp_ge (tgt := 36) hx hb dX7_figuresFrom_7 (by decide) (fun c1 => ?_) (fun c1 => ?_)
      · replace h := h.1 c1
        exact w36 l1 l2 h ls (lv_sub hl [1, 2] rfl)
      · replace h := h.2 c1
        refine lv_aload_n hx hb dX7_figuresFrom_10 rfl (lv_at hl 0 rfl) ?_
        refine lv_iload_n hx hb dX7_figuresFrom_11 rfl (lv_at hl 2 rfl) ?_
        have hPc := hP.sub (ws' := [(q0, .inr (4, [.ref q_letters, .int v_count, .int v_beats, .int v_set, .int v_times, .int v_faultAt])), (q_letters, .inl (cI, 60, .inl f_letters))]) [0, 1] rfl
        refine vs_calli (va_runV (As := [.int l2]) (rest := []) ⟨hx, hb, hml, hown, hts⟩ (c_X7_letterAt l dC dI cI cZ q0 q_letters v_count v_beats v_set v_times v_faultAt f_letters l2 _ h) (cwV 1 hts gX7_figuresFrom_X7_letterAt rfl rfl rfl (by decide +kernel) ⟨Nat.le_of_ble_eq_true rfl, Nat.le_of_ble_eq_true rfl⟩) ⟨fun a U g mk q => ⟨q.1, q.2.1, va_K.moved (u := U) (U := U.calling g mk a) (Vm.Alike.refl U.vm) q.2.2.1, nW_call q.2.2.2⟩, va_recv hK hPc (ci := 4) (q0 := 0) rfl rfl, fun U hU hW => ⟨rfl, by rw [hU]; exact hPc, va_K.moved hW.alike hK, nW_warm hW hN⟩⟩ rfl rfl hl.1 rfl (lv_room (Nat.le_of_ble_eq_true rfl)) dX7_figuresFrom_12 ⟨Nat.le_of_ble_eq_true rfl, Nat.le_of_ble_eq_true rfl⟩) (fun r2 h => ?_)
        refine lv_bipush (v := 48) hx hb dX7_figuresFrom_15 (by decide) ?_
        refine lv_icmp_lt (tgt := 36) hx hb dX7_figuresFrom_17 (by decide) (fun c3 => ?_) (fun c3 => ?_)
        · replace h := h.1 c3
          exact w36 l1 l2 h ls (lv_sub hl [1, 2] rfl)
        · replace h := h.2 c3
          refine lv_aload_n hx hb dX7_figuresFrom_20 rfl (lv_at hl 0 rfl) ?_
          refine lv_iload_n hx hb dX7_figuresFrom_21 rfl (lv_at hl 2 rfl) ?_
          have hPc := hP.sub (ws' := [(q0, .inr (4, [.ref q_letters, .int v_count, .int v_beats, .int v_set, .int v_times, .int v_faultAt])), (q_letters, .inl (cI, 60, .inl f_letters))]) [0, 1] rfl
          refine vs_calli (va_runV (As := [.int l2]) (rest := []) ⟨hx, hb, hml, hown, hts⟩ (c_X7_letterAt l dC dI cI cZ q0 q_letters v_count v_beats v_set v_times v_faultAt f_letters l2 _ h) (cwV 1 hts gX7_figuresFrom_X7_letterAt rfl rfl rfl (by decide +kernel) ⟨Nat.le_of_ble_eq_true rfl, Nat.le_of_ble_eq_true rfl⟩) ⟨fun a U g mk q => ⟨q.1, q.2.1, va_K.moved (u := U) (U := U.calling g mk a) (Vm.Alike.refl U.vm) q.2.2.1, nW_call q.2.2.2⟩, va_recv hK hPc (ci := 4) (q0 := 0) rfl rfl, fun U hU hW => ⟨rfl, by rw [hU]; exact hPc, va_K.moved hW.alike hK, nW_warm hW hN⟩⟩ rfl rfl hl.1 rfl (lv_room (Nat.le_of_ble_eq_true rfl)) dX7_figuresFrom_22 ⟨Nat.le_of_ble_eq_true rfl, Nat.le_of_ble_eq_true rfl⟩) (fun r4 h => ?_)
          refine lv_bipush (v := 57) hx hb dX7_figuresFrom_25 (by decide) ?_
          refine lv_icmp_gt (tgt := 36) hx hb dX7_figuresFrom_27 (by decide) (fun c5 => ?_) (fun c5 => ?_)
          · replace h := h.1 c5
            exact w36 l1 l2 h ls (lv_sub hl [1, 2] rfl)
          · replace h := h.2 c5
            obtain ⟨x6, ex6⟩ : ∃ y : Int32, y = l2 + 1 := ⟨_, rfl⟩
            replace h := h x6 ex6
            refine lv_iinc (v := x6) (lv' := [(2, .int x6), (0, .ref q0), (1, .int l1)]) hx hb dX7_figuresFrom_30 hl (k := 2) rfl (by rw [ex6]; rfl) (by decide) rfl (fun ls hl => ?_)
            refine lv_goto (tgt := 2) hx hb dX7_figuresFrom_33 (by decide) ?_
            exact k2 l1 x6 h ls (lv_sub hl [1, 2, 0] rfl)
  have hl := lv_entry ([.ref q0, .int p1]) (n := 3) (Nat.le_of_ble_eq_true rfl)
  rw [lg_entry_eq]
  generalize (lg_sl ([.ref q0, .int p1]) ++ List.replicate (3 - (lg_sl ([.ref q0, .int p1])).length) Slot.unset).toArray = ls at hl ⊢
  have hl : lv_has ls 3 [(0, .ref q0), (1, .int p1)] := hl
  refine lv_iload_n hx hb dX7_figuresFrom_0 rfl (lv_at hl 1 rfl) ?_
  refine lv_istore_n (lv' := [(2, .int p1), (0, .ref q0), (1, .int p1)]) hx hb dX7_figuresFrom_1 rfl hl (by decide) rfl (fun ls hl => ?_)
  obtain ⟨k7, h⟩ := h
  exact w2 k7 p1 p1 h ls (lv_sub hl [1, 2, 0] rfl)

def wp_X7_readNumber_j17 (v_count : Int32) (f_letters : (Nat → Int32)) (Q : Int32 → Int32 → Prop) (v_times : Int32) : Prop := Q 1 v_times
def wp_X7_readNumber_j56 (v_count : Int32) (f_letters : (Nat → Int32)) (Q : Int32 → Int32 → Prop) (l3 : Int32) (v_times : Int32) : Prop := (l3 ≤ 24 → (Q 0 l3)) ∧ (¬ l3 ≤ 24 → (Q 2 v_times))
def wp_X7_readNumber (v_count : Int32) (v_times : Int32) (f_letters : (Nat → Int32)) (p1 : Int32) (p2 : Int32) (Q : Int32 → Int32 → Prop) : Prop := (¬ v_times = 0 → (wp_X7_readNumber_j17 v_count f_letters Q v_times)) ∧ (v_times = 0 → (wp_X7_letterAt v_count f_letters p1 fun (r3 : Int32) => (¬ r3 = 48 → ((p2 ≤ 2 → (wp_X7_letterAt v_count f_letters p1 fun (r6 : Int32) => ∀ x7 : Int32, x7 = (r6 - 48) → (¬ p2 = 2 → (wp_X7_readNumber_j56 v_count f_letters Q x7 v_times)) ∧ (p2 = 2 → (wp_X7_letterAt v_count f_letters (p1 + 1) fun (r9 : Int32) => ∀ x10 : Int32, x10 = (((10 * x7) + r9) - 48) → wp_X7_readNumber_j56 v_count f_letters Q x10 v_times)))) ∧ (¬ p2 ≤ 2 → (Q 2 v_times)))) ∧ (r3 = 48 → (wp_X7_readNumber_j17 v_count f_letters Q v_times))))
abbrev rmX7_readNumber : Room := { frames := 1, cells := 0, slots := 0, locals := 21 }
set_option maxRecDepth 20000 in
theorem iX7_readNumber_X7 : ∀ w ∈ wsX70, w ∈ wsX7_readNumber := by decide +kernel
set_option maxHeartbeats 4000000 in
set_option maxRecDepth 100000 in
theorem c_X7_readNumber (l : Launch) (dC : Nat → ClassId) (dI : Nat → Nat → Nat) (cI cZ : ClassId) (q0 q_letters : Nat) (sz : Nat) (v_count : Int32) (v_beats : Int32) (v_set : Int32) (v_times : Int32) (v_faultAt : Int32) (f_letters : (Nat → Int32)) (p1 : Int32) (p2 : Int32) (Q : Int32 → Int32 → Prop) (h : wp_X7_readNumber v_count v_times f_letters p1 p2 Q) : Met l yX7_readNumber wsX7_readNumber (rmX7_readNumber) (va_Pc [.ref q0, .int p1, .int p2] (fun U => U.heap.size = sz ∧ va_P (dC, dI) vwCl [(q0, .inr (4, [.ref q_letters, .int v_count, .int v_beats, .int v_set, .int v_times, .int v_faultAt])), (q_letters, .inl (cI, 60, .inl f_letters))] U.heap ∧ va_K (dC, dI) vwCl (tyZ cI cZ) U ∧ va_D (fun _ => True) [(q0, .inr (4, [.ref q_letters, .int v_count, .int v_beats, .int v_set, .int v_times, .int v_faultAt])), (q_letters, .inl (cI, 60, .inl f_letters))] ∧ nW U)) (va_Qi (fun (r : Int32) (u : Int32) => Q r u) (fun (u : Int32) (t : State) => va_P (dC, dI) vwCl [(q0, .inr (4, [.ref q_letters, .int v_count, .int v_beats, .int v_set, .int u, .int v_faultAt])), (q_letters, .inl (cI, 60, .inl f_letters))] t.heap ∧ va_D (va_A [(q0, .inr (4, [.ref q_letters, .int v_count, .int v_beats, .int v_set, .int v_times, .int v_faultAt])), (q_letters, .inl (cI, 60, .inl f_letters))] sz) [(q0, .inr (4, [.ref q_letters, .int v_count, .int v_beats, .int v_set, .int u, .int v_faultAt])), (q_letters, .inl (cI, 60, .inl f_letters))]) (va_A [(q0, .inr (4, [.ref q_letters, .int v_count, .int v_beats, .int v_set, .int v_times, .int v_faultAt])), (q_letters, .inl (cI, 60, .inl f_letters))] sz)) 0 0 (va_A [(q0, .inr (4, [.ref q_letters, .int v_count, .int v_beats, .int v_set, .int v_times, .int v_faultAt])), (q_letters, .inl (cI, 60, .inl f_letters))] sz) := by
  unfold wp_X7_readNumber at h
  refine Met.ofW (cc := cX7_readNumber) (maxL := 4) (ret := (some .int)) (by decide) rfl ?_
  intro p e s m args below meth c s₁ B hml hv
  obtain ⟨rfl, hsz, hP, hK, hD0, hN⟩ := hv
  have hx := B.exec
  have hb := B.bytes
  have hr := B.returns
  have hts := atoms_spec (ws := wsX7_readNumber) B.pre
  have hown : s.vm.findClass RX7 = some m.cls := findClass_of_methodNamed B.named
  have hlocks := B.notSynchronized
  subst hsz
  have hD := hD0.self (sz := s.heap.size)
  generalize hAe : va_A [(q0, .inr (4, [.ref q_letters, .int v_count, .int v_beats, .int v_set, .int v_times, .int v_faultAt])), (q_letters, .inl (cI, 60, .inl f_letters))] s.heap.size = A at hD ⊢
  have hA : ∀ q : Nat, s.heap.size ≤ q → A q := fun q h => by rw [← hAe]; exact Or.inr h
  clear hAe
  have hS : va_S A s.heap s.heap [] := va_S.rf
  have w17 : ∀ (v_times : Int32), wp_X7_readNumber_j17 v_count f_letters Q v_times → ∀ (H : Heap) (locs : List Loc) (ls : Array Slot), va_P (dC, dI) vwCl [(q0, .inr (4, [.ref q_letters, .int v_count, .int v_beats, .int v_set, .int v_times, .int v_faultAt])), (q_letters, .inl (cI, 60, .inl f_letters))] H → va_D A [(q0, .inr (4, [.ref q_letters, .int v_count, .int v_beats, .int v_set, .int v_times, .int v_faultAt])), (q_letters, .inl (cI, 60, .inl f_letters))] → va_S A s.heap H locs → lv_has ls 4 [] → W p l e (headSpec wsX7_readNumber (rmX7_readNumber)).room s m ([.ref q0, .int p1, .int p2] : List Value).toArray below meth c H locs 0 0 (MQ below (va_Qi (fun (r : Int32) (u : Int32) => Q r u) (fun (u : Int32) (t : State) => va_P (dC, dI) vwCl [(q0, .inr (4, [.ref q_letters, .int v_count, .int v_beats, .int v_set, .int u, .int v_faultAt])), (q_letters, .inl (cI, 60, .inl f_letters))] t.heap ∧ va_D A [(q0, .inr (4, [.ref q_letters, .int v_count, .int v_beats, .int v_set, .int u, .int v_faultAt])), (q_letters, .inl (cI, 60, .inl f_letters))]) A) ([.ref q0, .int p1, .int p2] : List Value).toArray s 0 0 A) (F0 m 17 ls []) := by
    intro v_times h H locs ls hP hD hS hl
    unfold wp_X7_readNumber_j17 at h
    refine lv_iconst (v := 1) hx hb dX7_readNumber_17 (by decide) ?_
    exact W.iret (v := 1) hx hb hr (fun t ht hW => ⟨⟨_, v_times, rfl, h, by rw [ht]; exact hP, hD⟩, hS.F ht⟩) hS.2.2 dX7_readNumber_18
  have w56 : ∀ (l3 : Int32) (v_times : Int32), wp_X7_readNumber_j56 v_count f_letters Q l3 v_times → ∀ (H : Heap) (locs : List Loc) (ls : Array Slot), va_P (dC, dI) vwCl [(q0, .inr (4, [.ref q_letters, .int v_count, .int v_beats, .int v_set, .int v_times, .int v_faultAt])), (q_letters, .inl (cI, 60, .inl f_letters))] H → va_D A [(q0, .inr (4, [.ref q_letters, .int v_count, .int v_beats, .int v_set, .int v_times, .int v_faultAt])), (q_letters, .inl (cI, 60, .inl f_letters))] → va_S A s.heap H locs → lv_has ls 4 [(0, .ref q0), (3, .int l3)] → W p l e (headSpec wsX7_readNumber (rmX7_readNumber)).room s m ([.ref q0, .int p1, .int p2] : List Value).toArray below meth c H locs 0 0 (MQ below (va_Qi (fun (r : Int32) (u : Int32) => Q r u) (fun (u : Int32) (t : State) => va_P (dC, dI) vwCl [(q0, .inr (4, [.ref q_letters, .int v_count, .int v_beats, .int v_set, .int u, .int v_faultAt])), (q_letters, .inl (cI, 60, .inl f_letters))] t.heap ∧ va_D A [(q0, .inr (4, [.ref q_letters, .int v_count, .int v_beats, .int v_set, .int u, .int v_faultAt])), (q_letters, .inl (cI, 60, .inl f_letters))]) A) ([.ref q0, .int p1, .int p2] : List Value).toArray s 0 0 A) (F0 m 56 ls []) := by
    intro l3 v_times h H locs ls hP hD hS hl
    unfold wp_X7_readNumber_j56 at h
    refine lv_iload_n hx hb dX7_readNumber_56 rfl (lv_at hl 1 rfl) ?_
    refine lv_bipush (v := 24) hx hb dX7_readNumber_57 (by decide) ?_
    refine lv_icmp_le (tgt := 64) hx hb dX7_readNumber_59 (by decide) (fun c1 => ?_) (fun c1 => ?_)
    · replace h := h.1 c1
      refine lv_aload_n hx hb dX7_readNumber_64 rfl (lv_at hl 0 rfl) ?_
      refine lv_iload_n hx hb dX7_readNumber_65 rfl (lv_at hl 1 rfl) ?_
      refine va_put (D := (dC, dI)) (ci := 4) (v := .int l3) (ty := .int) (C := RX7) (T := TX7) (N := 6) hx hb hts iX7_readNumber_X7 tyX7 tyX7_ok nmX7 hown hK hP hD hS 0 rfl rfl 4 (by decide) (hts (.fieldLink RX7 29 "TilingBeats$Text" "times" "I") (by decide +kernel)) (fun _ h9 => h9) rfl (by decide +kernel) rfl rfl (Nat.le_of_ble_eq_true rfl) dX7_readNumber_66 (fun H locs hP hD hS => ?_)
      have hP : va_P (dC, dI) vwCl [(q0, .inr (4, [.ref q_letters, .int v_count, .int v_beats, .int v_set, .int l3, .int v_faultAt])), (q_letters, .inl (cI, 60, .inl f_letters))] H := hP
      have hD : va_D A [(q0, .inr (4, [.ref q_letters, .int v_count, .int v_beats, .int v_set, .int l3, .int v_faultAt])), (q_letters, .inl (cI, 60, .inl f_letters))] := hD
      refine lv_iconst (v := 0) hx hb dX7_readNumber_69 (by decide) ?_
      exact W.iret (v := 0) hx hb hr (fun t ht hW => ⟨⟨_, l3, rfl, h, by rw [ht]; exact hP, hD⟩, hS.F ht⟩) hS.2.2 dX7_readNumber_70
    · replace h := h.2 c1
      refine lv_iconst (v := 2) hx hb dX7_readNumber_62 (by decide) ?_
      exact W.iret (v := 2) hx hb hr (fun t ht hW => ⟨⟨_, v_times, rfl, h, by rw [ht]; exact hP, hD⟩, hS.F ht⟩) hS.2.2 dX7_readNumber_63
  have hl := lv_entry ([.ref q0, .int p1, .int p2]) (n := 4) (Nat.le_of_ble_eq_true rfl)
  rw [lg_entry_eq]
  generalize (lg_sl ([.ref q0, .int p1, .int p2]) ++ List.replicate (4 - (lg_sl ([.ref q0, .int p1, .int p2])).length) Slot.unset).toArray = ls at hl ⊢
  have hl : lv_has ls 4 [(0, .ref q0), (1, .int p1), (2, .int p2)] := hl
  refine lv_aload_n hx hb dX7_readNumber_0 rfl (lv_at hl 0 rfl) ?_
  refine va_get (D := (dC, dI)) (ci := 4) (v := .int v_times) (C := RX7) (T := TX7) (N := 6) hx hb hts iX7_readNumber_X7 hown hK hP 0 rfl rfl 4 (by decide) (hts (.fieldLink RX7 29 "TilingBeats$Text" "times" "I") (by decide +kernel)) (fun _ h9 => h9) rfl dX7_readNumber_1 ?_
  refine lv_if_ne (tgt := 17) hx hb dX7_readNumber_4 (by decide) (fun c2 => ?_) (fun c2 => ?_)
  · replace h := h.1 c2
    exact w17 v_times h s.heap [] ls hP hD hS (lv_sub hl [] rfl)
  · replace h := h.2 c2
    refine lv_aload_n hx hb dX7_readNumber_7 rfl (lv_at hl 0 rfl) ?_
    refine lv_iload_n hx hb dX7_readNumber_8 rfl (lv_at hl 1 rfl) ?_
    have hPc := hP.sub (ws' := [(q0, .inr (4, [.ref q_letters, .int v_count, .int v_beats, .int v_set, .int v_times, .int v_faultAt])), (q_letters, .inl (cI, 60, .inl f_letters))]) [0, 1] rfl
    refine vs_calli (va_runV (As := [.int p1]) (rest := []) ⟨hx, hb, hml, hown, hts⟩ (c_X7_letterAt l dC dI cI cZ q0 q_letters v_count v_beats v_set v_times v_faultAt f_letters p1 _ h) (cwV 1 hts gX7_readNumber_X7_letterAt rfl rfl rfl (by decide +kernel) ⟨Nat.le_of_ble_eq_true rfl, Nat.le_of_ble_eq_true rfl⟩) ⟨fun a U g mk q => ⟨q.1, q.2.1, va_K.moved (u := U) (U := U.calling g mk a) (Vm.Alike.refl U.vm) q.2.2.1, nW_call q.2.2.2⟩, va_recv hK hPc (ci := 4) (q0 := 0) rfl rfl, fun U hU hW => ⟨rfl, by rw [hU]; exact hPc, va_K.moved hW.alike hK, nW_warm hW hN⟩⟩ rfl rfl hl.1 rfl (lv_room (Nat.le_of_ble_eq_true rfl)) dX7_readNumber_9 ⟨Nat.le_of_ble_eq_true rfl, Nat.le_of_ble_eq_true rfl⟩) (fun r3 h => ?_)
    refine lv_bipush (v := 48) hx hb dX7_readNumber_12 (by decide) ?_
    refine lv_icmp_ne (tgt := 19) hx hb dX7_readNumber_14 (by decide) (fun c4 => ?_) (fun c4 => ?_)
    · replace h := h.1 c4
      refine lv_iload_n hx hb dX7_readNumber_19 rfl (lv_at hl 2 rfl) ?_
      refine lv_iconst (v := 2) hx hb dX7_readNumber_20 (by decide) ?_
      refine lv_icmp_le (tgt := 26) hx hb dX7_readNumber_21 (by decide) (fun c5 => ?_) (fun c5 => ?_)
      · replace h := h.1 c5
        refine lv_aload_n hx hb dX7_readNumber_26 rfl (lv_at hl 0 rfl) ?_
        refine lv_iload_n hx hb dX7_readNumber_27 rfl (lv_at hl 1 rfl) ?_
        have hPc := hP.sub (ws' := [(q0, .inr (4, [.ref q_letters, .int v_count, .int v_beats, .int v_set, .int v_times, .int v_faultAt])), (q_letters, .inl (cI, 60, .inl f_letters))]) [0, 1] rfl
        refine vs_calli (va_runV (As := [.int p1]) (rest := []) ⟨hx, hb, hml, hown, hts⟩ (c_X7_letterAt l dC dI cI cZ q0 q_letters v_count v_beats v_set v_times v_faultAt f_letters p1 _ h) (cwV 1 hts gX7_readNumber_X7_letterAt rfl rfl rfl (by decide +kernel) ⟨Nat.le_of_ble_eq_true rfl, Nat.le_of_ble_eq_true rfl⟩) ⟨fun a U g mk q => ⟨q.1, q.2.1, va_K.moved (u := U) (U := U.calling g mk a) (Vm.Alike.refl U.vm) q.2.2.1, nW_call q.2.2.2⟩, va_recv hK hPc (ci := 4) (q0 := 0) rfl rfl, fun U hU hW => ⟨rfl, by rw [hU]; exact hPc, va_K.moved hW.alike hK, nW_warm hW hN⟩⟩ rfl rfl hl.1 rfl (lv_room (Nat.le_of_ble_eq_true rfl)) dX7_readNumber_28 ⟨Nat.le_of_ble_eq_true rfl, Nat.le_of_ble_eq_true rfl⟩) (fun r6 h => ?_)
        refine lv_bipush (v := 48) hx hb dX7_readNumber_31 (by decide) ?_
        refine lv_isub hx hb dX7_readNumber_33 ?_
        refine lv_topi (fun x7 ex7 => ?_)
        replace h := h x7 ex7
        refine lv_istore_n (lv' := [(3, .int x7), (0, .ref q0), (1, .int p1), (2, .int p2)]) hx hb dX7_readNumber_34 rfl hl (by decide) rfl (fun ls hl => ?_)
        refine lv_iload_n hx hb dX7_readNumber_35 rfl (lv_at hl 3 rfl) ?_
        refine lv_iconst (v := 2) hx hb dX7_readNumber_36 (by decide) ?_
        refine lv_icmp_ne (tgt := 56) hx hb dX7_readNumber_37 (by decide) (fun c8 => ?_) (fun c8 => ?_)
        · replace h := h.1 c8
          exact w56 x7 v_times h s.heap [] ls hP hD hS (lv_sub hl [1, 0] rfl)
        · replace h := h.2 c8
          refine lv_bipush (v := 10) hx hb dX7_readNumber_40 (by decide) ?_
          refine lv_iload_n hx hb dX7_readNumber_42 rfl (lv_at hl 0 rfl) ?_
          refine lv_imul hx hb dX7_readNumber_43 ?_
          refine lv_aload_n hx hb dX7_readNumber_44 rfl (lv_at hl 1 rfl) ?_
          refine lv_iload_n hx hb dX7_readNumber_45 rfl (lv_at hl 2 rfl) ?_
          refine lv_iconst (v := 1) hx hb dX7_readNumber_46 (by decide) ?_
          refine lv_iadd hx hb dX7_readNumber_47 ?_
          have hPc := hP.sub (ws' := [(q0, .inr (4, [.ref q_letters, .int v_count, .int v_beats, .int v_set, .int v_times, .int v_faultAt])), (q_letters, .inl (cI, 60, .inl f_letters))]) [0, 1] rfl
          refine vs_calli (va_runV (As := [.int (p1 + 1)]) (rest := [.int (10 * x7)]) ⟨hx, hb, hml, hown, hts⟩ (c_X7_letterAt l dC dI cI cZ q0 q_letters v_count v_beats v_set v_times v_faultAt f_letters (p1 + 1) _ h) (cwV 1 hts gX7_readNumber_X7_letterAt rfl rfl rfl (by decide +kernel) ⟨Nat.le_of_ble_eq_true rfl, Nat.le_of_ble_eq_true rfl⟩) ⟨fun a U g mk q => ⟨q.1, q.2.1, va_K.moved (u := U) (U := U.calling g mk a) (Vm.Alike.refl U.vm) q.2.2.1, nW_call q.2.2.2⟩, va_recv hK hPc (ci := 4) (q0 := 0) rfl rfl, fun U hU hW => ⟨rfl, by rw [hU]; exact hPc, va_K.moved hW.alike hK, nW_warm hW hN⟩⟩ rfl rfl hl.1 rfl (lv_room (Nat.le_of_ble_eq_true rfl)) dX7_readNumber_48 ⟨Nat.le_of_ble_eq_true rfl, Nat.le_of_ble_eq_true rfl⟩) (fun r9 h => ?_)
          refine lv_iadd hx hb dX7_readNumber_51 ?_
          refine lv_bipush (v := 48) hx hb dX7_readNumber_52 (by decide) ?_
          refine lv_isub hx hb dX7_readNumber_54 ?_
          refine lv_topi (fun x10 ex10 => ?_)
          replace h := h x10 ex10
          refine lv_istore_n (lv' := [(3, .int x10), (0, .ref q0), (1, .int p1), (2, .int p2)]) hx hb dX7_readNumber_55 rfl hl (by decide) rfl (fun ls hl => ?_)
          exact w56 x10 v_times h s.heap [] ls hP hD hS (lv_sub hl [1, 0] rfl)
      · replace h := h.2 c5
        refine lv_iconst (v := 2) hx hb dX7_readNumber_24 (by decide) ?_
        exact W.iret (v := 2) hx hb hr (fun t ht hW => ⟨⟨_, v_times, rfl, h, by rw [ht]; exact hP, hD⟩, hS.F ht⟩) hS.2.2 dX7_readNumber_25
    · replace h := h.2 c4
      exact w17 v_times h s.heap [] ls hP hD hS (lv_sub hl [] rfl)

def wp_X7_readSign_j68 (Q : Int32 → Int32 → Int32 → Int32 → Prop) (l2 : Int32) (v_beats : Int32) (v_set : Int32) (v_times : Int32) : Prop := ∀ x1 : Int32, x1 = (v_beats + l2) → Q 0 x1 v_set 0
def wp_X7_readSign_j22 (Q : Int32 → Int32 → Int32 → Int32 → Prop) (l1 : Int32) (v_beats : Int32) (v_set : Int32) (v_times : Int32) : Prop := ∀ x2 : Int32, x2 = (if 1 < v_times then v_times else 1) → ((v_beats + x2) ≤ 24 → ((¬ l1 = 120 → (wp_X7_readSign_j68 Q x2 v_beats v_set v_times)) ∧ (l1 = 120 → (wp_X6_full x2 fun (r5 : Int32) => ∀ x6 : Int32, x6 = (v_set ||| (r5 <<< (v_beats &&& 31))) → wp_X7_readSign_j68 Q x2 v_beats x6 v_times)))) ∧ (¬ (v_beats + x2) ≤ 24 → (Q 3 v_beats v_set v_times))
def wp_X7_readSign (v_beats : Int32) (v_set : Int32) (v_times : Int32) (p1 : Int32) (Q : Int32 → Int32 → Int32 → Int32 → Prop) : Prop := (¬ p1 = 32 → ((p1 = 120 → (wp_X7_readSign_j22 Q p1 v_beats v_set v_times)) ∧ (¬ p1 = 120 → ((p1 = 46 → (wp_X7_readSign_j22 Q p1 v_beats v_set v_times)) ∧ (¬ p1 = 46 → (Q 1 v_beats v_set v_times)))))) ∧ (p1 = 32 → (Q 0 v_beats v_set v_times))
abbrev rmX7_readSign : Room := { frames := 1, cells := 0, slots := 0, locals := 21 }
set_option maxRecDepth 20000 in
theorem iX7_readSign_X7 : ∀ w ∈ wsX70, w ∈ wsX7_readSign := by decide +kernel
set_option maxHeartbeats 4000000 in
set_option maxRecDepth 100000 in
theorem c_X7_readSign (l : Launch) (dC : Nat → ClassId) (dI : Nat → Nat → Nat) (cI cZ : ClassId) (q0 q_letters : Nat) (sz : Nat) (v_count : Int32) (v_beats : Int32) (v_set : Int32) (v_times : Int32) (v_faultAt : Int32) (p1 : Int32) (Q : Int32 → Int32 → Int32 → Int32 → Prop) (h : wp_X7_readSign v_beats v_set v_times p1 Q) : Met l yX7_readSign wsX7_readSign (rmX7_readSign) (va_Pc [.ref q0, .int p1] (fun U => U.heap.size = sz ∧ va_P (dC, dI) vwCl [(q0, .inr (4, [.ref q_letters, .int v_count, .int v_beats, .int v_set, .int v_times, .int v_faultAt]))] U.heap ∧ va_K (dC, dI) vwCl (tyZ cI cZ) U ∧ va_D (fun _ => True) [(q0, .inr (4, [.ref q_letters, .int v_count, .int v_beats, .int v_set, .int v_times, .int v_faultAt]))] ∧ nW U)) (va_Qi (fun (r : Int32) (u : Int32 × Int32 × Int32) => Q r u.1 u.2.1 u.2.2) (fun (u : Int32 × Int32 × Int32) (t : State) => va_P (dC, dI) vwCl [(q0, .inr (4, [.ref q_letters, .int v_count, .int u.1, .int u.2.1, .int u.2.2, .int v_faultAt]))] t.heap ∧ va_D (va_A [(q0, .inr (4, [.ref q_letters, .int v_count, .int v_beats, .int v_set, .int v_times, .int v_faultAt]))] sz) [(q0, .inr (4, [.ref q_letters, .int v_count, .int u.1, .int u.2.1, .int u.2.2, .int v_faultAt]))]) (va_A [(q0, .inr (4, [.ref q_letters, .int v_count, .int v_beats, .int v_set, .int v_times, .int v_faultAt]))] sz)) 0 0 (va_A [(q0, .inr (4, [.ref q_letters, .int v_count, .int v_beats, .int v_set, .int v_times, .int v_faultAt]))] sz) := by
  unfold wp_X7_readSign at h
  refine Met.ofW (cc := cX7_readSign) (maxL := 3) (ret := (some .int)) (by decide) rfl ?_
  intro p e s m args below meth c s₁ B hml hv
  obtain ⟨rfl, hsz, hP, hK, hD0, hN⟩ := hv
  have hx := B.exec
  have hb := B.bytes
  have hr := B.returns
  have hts := atoms_spec (ws := wsX7_readSign) B.pre
  have hown : s.vm.findClass RX7 = some m.cls := findClass_of_methodNamed B.named
  have hlocks := B.notSynchronized
  subst hsz
  have hD := hD0.self (sz := s.heap.size)
  generalize hAe : va_A [(q0, .inr (4, [.ref q_letters, .int v_count, .int v_beats, .int v_set, .int v_times, .int v_faultAt]))] s.heap.size = A at hD ⊢
  have hA : ∀ q : Nat, s.heap.size ≤ q → A q := fun q h => by rw [← hAe]; exact Or.inr h
  clear hAe
  have hS : va_S A s.heap s.heap [] := va_S.rf
  have w68 : ∀ (l2 : Int32) (v_beats : Int32) (v_set : Int32) (v_times : Int32), wp_X7_readSign_j68 Q l2 v_beats v_set v_times → ∀ (H : Heap) (locs : List Loc) (ls : Array Slot), va_P (dC, dI) vwCl [(q0, .inr (4, [.ref q_letters, .int v_count, .int v_beats, .int v_set, .int v_times, .int v_faultAt]))] H → va_D A [(q0, .inr (4, [.ref q_letters, .int v_count, .int v_beats, .int v_set, .int v_times, .int v_faultAt]))] → va_S A s.heap H locs → lv_has ls 3 [(0, .ref q0), (2, .int l2)] → W p l e (headSpec wsX7_readSign (rmX7_readSign)).room s m ([.ref q0, .int p1] : List Value).toArray below meth c H locs 0 0 (MQ below (va_Qi (fun (r : Int32) (u : Int32 × Int32 × Int32) => Q r u.1 u.2.1 u.2.2) (fun (u : Int32 × Int32 × Int32) (t : State) => va_P (dC, dI) vwCl [(q0, .inr (4, [.ref q_letters, .int v_count, .int u.1, .int u.2.1, .int u.2.2, .int v_faultAt]))] t.heap ∧ va_D A [(q0, .inr (4, [.ref q_letters, .int v_count, .int u.1, .int u.2.1, .int u.2.2, .int v_faultAt]))]) A) ([.ref q0, .int p1] : List Value).toArray s 0 0 A) (F0 m 68 ls []) := by
    intro l2 v_beats v_set v_times h H locs ls hP hD hS hl
    unfold wp_X7_readSign_j68 at h
    refine lv_aload_n hx hb dX7_readSign_68 rfl (lv_at hl 0 rfl) ?_
    refine lv_dup hx hb dX7_readSign_69 rfl ?_
    refine va_get (D := (dC, dI)) (ci := 4) (v := .int v_beats) (C := RX7) (T := TX7) (N := 6) hx hb hts iX7_readSign_X7 hown hK hP 0 rfl rfl 2 (by decide) (hts (.fieldLink RX7 23 "TilingBeats$Text" "beats" "I") (by decide +kernel)) (fun _ h9 => h9) rfl dX7_readSign_70 ?_
    refine lv_iload_n hx hb dX7_readSign_73 rfl (lv_at hl 1 rfl) ?_
    refine lv_iadd hx hb dX7_readSign_74 ?_
    refine lv_topi (fun x1 ex1 => ?_)
    replace h := h x1 ex1
    refine va_put (D := (dC, dI)) (ci := 4) (v := .int x1) (ty := .int) (C := RX7) (T := TX7) (N := 6) hx hb hts iX7_readSign_X7 tyX7 tyX7_ok nmX7 hown hK hP hD hS 0 rfl rfl 2 (by decide) (hts (.fieldLink RX7 23 "TilingBeats$Text" "beats" "I") (by decide +kernel)) (fun _ h9 => h9) rfl (by decide +kernel) rfl rfl (Nat.le_of_ble_eq_true rfl) dX7_readSign_75 (fun H locs hP hD hS => ?_)
    have hP : va_P (dC, dI) vwCl [(q0, .inr (4, [.ref q_letters, .int v_count, .int x1, .int v_set, .int v_times, .int v_faultAt]))] H := hP
    have hD : va_D A [(q0, .inr (4, [.ref q_letters, .int v_count, .int x1, .int v_set, .int v_times, .int v_faultAt]))] := hD
    refine lv_aload_n hx hb dX7_readSign_78 rfl (lv_at hl 0 rfl) ?_
    refine lv_iconst (v := 0) hx hb dX7_readSign_79 (by decide) ?_
    refine va_put (D := (dC, dI)) (ci := 4) (v := .int 0) (ty := .int) (C := RX7) (T := TX7) (N := 6) hx hb hts iX7_readSign_X7 tyX7 tyX7_ok nmX7 hown hK hP hD hS 0 rfl rfl 4 (by decide) (hts (.fieldLink RX7 29 "TilingBeats$Text" "times" "I") (by decide +kernel)) (fun _ h9 => h9) rfl (by decide +kernel) rfl rfl (Nat.le_of_ble_eq_true rfl) dX7_readSign_80 (fun H locs hP hD hS => ?_)
    have hP : va_P (dC, dI) vwCl [(q0, .inr (4, [.ref q_letters, .int v_count, .int x1, .int v_set, .int 0, .int v_faultAt]))] H := hP
    have hD : va_D A [(q0, .inr (4, [.ref q_letters, .int v_count, .int x1, .int v_set, .int 0, .int v_faultAt]))] := hD
    refine lv_iconst (v := 0) hx hb dX7_readSign_83 (by decide) ?_
    exact W.iret (v := 0) hx hb hr (fun t ht hW => ⟨⟨_, (x1, v_set, 0), rfl, h, by rw [ht]; exact hP, hD⟩, hS.F ht⟩) hS.2.2 dX7_readSign_84
  have w22 : ∀ (l1 : Int32) (v_beats : Int32) (v_set : Int32) (v_times : Int32), wp_X7_readSign_j22 Q l1 v_beats v_set v_times → ∀ (H : Heap) (locs : List Loc) (ls : Array Slot), va_P (dC, dI) vwCl [(q0, .inr (4, [.ref q_letters, .int v_count, .int v_beats, .int v_set, .int v_times, .int v_faultAt]))] H → va_D A [(q0, .inr (4, [.ref q_letters, .int v_count, .int v_beats, .int v_set, .int v_times, .int v_faultAt]))] → va_S A s.heap H locs → lv_has ls 3 [(0, .ref q0), (1, .int l1)] → W p l e (headSpec wsX7_readSign (rmX7_readSign)).room s m ([.ref q0, .int p1] : List Value).toArray below meth c H locs 0 0 (MQ below (va_Qi (fun (r : Int32) (u : Int32 × Int32 × Int32) => Q r u.1 u.2.1 u.2.2) (fun (u : Int32 × Int32 × Int32) (t : State) => va_P (dC, dI) vwCl [(q0, .inr (4, [.ref q_letters, .int v_count, .int u.1, .int u.2.1, .int u.2.2, .int v_faultAt]))] t.heap ∧ va_D A [(q0, .inr (4, [.ref q_letters, .int v_count, .int u.1, .int u.2.1, .int u.2.2, .int v_faultAt]))]) A) ([.ref q0, .int p1] : List Value).toArray s 0 0 A) (F0 m 22 ls []) := by
    intro l1 v_beats v_set v_times h H locs ls hP hD hS hl
    unfold wp_X7_readSign_j22 at h
    refine lv_iconst (v := 1) hx hb dX7_readSign_22 (by decide) ?_
    refine lv_aload_n hx hb dX7_readSign_23 rfl (lv_at hl 0 rfl) ?_
    refine va_get (D := (dC, dI)) (ci := 4) (v := .int v_times) (C := RX7) (T := TX7) (N := 6) hx hb hts iX7_readSign_X7 hown hK hP 0 rfl rfl 4 (by decide) (hts (.fieldLink RX7 29 "TilingBeats$Text" "times" "I") (by decide +kernel)) (fun _ h9 => h9) rfl dX7_readSign_24 ?_
    refine va_mmax hx hb (by rw [hml]; exact hl.1.symm) hown (hts (.methodLink RX7 36 Lib.Math.max.name) (by decide +kernel)) (hts (.static Lib.Math.max.name) (by decide +kernel)) (hts (.initialized "java/lang/Math") (by decide +kernel)) (hts (.code Lib.Math.max.name Lib.Math.max.code 2 (some .int)) (by decide +kernel)) (Nat.le_of_ble_eq_true rfl) (Nat.le_of_ble_eq_true rfl) (Nat.le_of_ble_eq_true rfl) (Nat.le_of_ble_eq_true rfl) dX7_readSign_27 ?_
    refine lv_topi (fun x2 ex2 => ?_)
    replace h := h x2 ex2
    refine lv_istore_n (lv' := [(2, .int x2), (0, .ref q0), (1, .int l1)]) hx hb dX7_readSign_30 rfl hl (by decide) rfl (fun ls hl => ?_)
    refine lv_aload_n hx hb dX7_readSign_31 rfl (lv_at hl 1 rfl) ?_
    refine va_get (D := (dC, dI)) (ci := 4) (v := .int v_beats) (C := RX7) (T := TX7) (N := 6) hx hb hts iX7_readSign_X7 hown hK hP 0 rfl rfl 2 (by decide) (hts (.fieldLink RX7 23 "TilingBeats$Text" "beats" "I") (by decide +kernel)) (fun _ h9 => h9) rfl dX7_readSign_32 ?_
    refine lv_iload_n hx hb dX7_readSign_35 rfl (lv_at hl 0 rfl) ?_
    refine lv_iadd hx hb dX7_readSign_36 ?_
    refine lv_bipush (v := 24) hx hb dX7_readSign_37 (by decide) ?_
    refine lv_icmp_le (tgt := 44) hx hb dX7_readSign_39 (by decide) (fun c3 => ?_) (fun c3 => ?_)
    · replace h := h.1 c3
      refine lv_iload_n hx hb dX7_readSign_44 rfl (lv_at hl 2 rfl) ?_
      refine lv_bipush (v := 120) hx hb dX7_readSign_45 (by decide) ?_
      refine lv_icmp_ne (tgt := 68) hx hb dX7_readSign_47 (by decide) (fun c4 => ?_) (fun c4 => ?_)
      · replace h := h.1 c4
        exact w68 x2 v_beats v_set v_times h H locs ls hP hD hS (lv_sub hl [1, 0] rfl)
      · replace h := h.2 c4
        refine lv_aload_n hx hb dX7_readSign_50 rfl (lv_at hl 1 rfl) ?_
        refine lv_dup hx hb dX7_readSign_51 rfl ?_
        refine va_get (D := (dC, dI)) (ci := 4) (v := .int v_set) (C := RX7) (T := TX7) (N := 6) hx hb hts iX7_readSign_X7 hown hK hP 0 rfl rfl 3 (by decide) (hts (.fieldLink RX7 26 "TilingBeats$Text" "set" "I") (by decide +kernel)) (fun _ h9 => h9) rfl dX7_readSign_52 ?_
        refine lv_iload_n hx hb dX7_readSign_55 rfl (lv_at hl 0 rfl) ?_
        refine vs_calli (va_runSN (As := [.int x2]) (rest := [.int v_set, .ref q0]) ⟨hx, hb, hml, hown, hts⟩ (c_X6_full l x2 _ h) ⟨va_cnB 1 hts gX7_readSign_X6_full_n54 rfl rfl rfl (nw_18 hN) (hts (.initialized RX6) (by decide +kernel)) (by decide +kernel) ⟨Nat.le_of_ble_eq_true rfl, Nat.le_of_ble_eq_true rfl⟩, hts (.static yX6_full) (by decide +kernel), trivial⟩ ⟨fun a U g mk q => ⟨q.1, nW_call q.2⟩, fun U hU hW => ⟨rfl, nW_warm hW hN⟩⟩ rfl rfl hl.1 rfl (lv_room (Nat.le_of_ble_eq_true rfl)) dX7_readSign_56 ⟨Nat.le_of_ble_eq_true rfl, Nat.le_of_ble_eq_true rfl⟩) (fun r5 h => ?_)
        refine lv_aload_n hx hb dX7_readSign_59 rfl (lv_at hl 1 rfl) ?_
        refine va_get (D := (dC, dI)) (ci := 4) (v := .int v_beats) (C := RX7) (T := TX7) (N := 6) hx hb hts iX7_readSign_X7 hown hK hP 0 rfl rfl 2 (by decide) (hts (.fieldLink RX7 23 "TilingBeats$Text" "beats" "I") (by decide +kernel)) (fun _ h9 => h9) rfl dX7_readSign_60 ?_
        refine lv_ishl hx hb dX7_readSign_63 ?_
        refine lv_ior hx hb dX7_readSign_64 ?_
        refine lv_topi (fun x6 ex6 => ?_)
        replace h := h x6 ex6
        refine va_put (D := (dC, dI)) (ci := 4) (v := .int x6) (ty := .int) (C := RX7) (T := TX7) (N := 6) hx hb hts iX7_readSign_X7 tyX7 tyX7_ok nmX7 hown hK hP hD hS 0 rfl rfl 3 (by decide) (hts (.fieldLink RX7 26 "TilingBeats$Text" "set" "I") (by decide +kernel)) (fun _ h9 => h9) rfl (by decide +kernel) rfl rfl (Nat.le_of_ble_eq_true rfl) dX7_readSign_65 (fun H locs hP hD hS => ?_)
        have hP : va_P (dC, dI) vwCl [(q0, .inr (4, [.ref q_letters, .int v_count, .int v_beats, .int x6, .int v_times, .int v_faultAt]))] H := hP
        have hD : va_D A [(q0, .inr (4, [.ref q_letters, .int v_count, .int v_beats, .int x6, .int v_times, .int v_faultAt]))] := hD
        exact w68 x2 v_beats x6 v_times h H locs ls hP hD hS (lv_sub hl [1, 0] rfl)
    · replace h := h.2 c3
      refine lv_iconst (v := 3) hx hb dX7_readSign_42 (by decide) ?_
      exact W.iret (v := 3) hx hb hr (fun t ht hW => ⟨⟨_, (v_beats, v_set, v_times), rfl, h, by rw [ht]; exact hP, hD⟩, hS.F ht⟩) hS.2.2 dX7_readSign_43
  have hl := lv_entry ([.ref q0, .int p1]) (n := 3) (Nat.le_of_ble_eq_true rfl)
  rw [lg_entry_eq]
  generalize (lg_sl ([.ref q0, .int p1]) ++ List.replicate (3 - (lg_sl ([.ref q0, .int p1])).length) Slot.unset).toArray = ls at hl ⊢
  have hl : lv_has ls 3 [(0, .ref q0), (1, .int p1)] := hl
  refine lv_iload_n hx hb dX7_readSign_0 rfl (lv_at hl 1 rfl) ?_
  refine lv_bipush (v := 32) hx hb dX7_readSign_1 (by decide) ?_
  refine lv_icmp_ne (tgt := 8) hx hb dX7_readSign_3 (by decide) (fun c7 => ?_) (fun c7 => ?_)
  · replace h := h.1 c7
    refine lv_iload_n hx hb dX7_readSign_8 rfl (lv_at hl 1 rfl) ?_
    refine lv_bipush (v := 120) hx hb dX7_readSign_9 (by decide) ?_
    refine lv_icmp_eq (tgt := 22) hx hb dX7_readSign_11 (by decide) (fun c8 => ?_) (fun c8 => ?_)
    · replace h := h.1 c8
      exact w22 p1 v_beats v_set v_times h s.heap [] ls hP hD hS (lv_sub hl [0, 1] rfl)
    · replace h := h.2 c8
      refine lv_iload_n hx hb dX7_readSign_14 rfl (lv_at hl 1 rfl) ?_
      refine lv_bipush (v := 46) hx hb dX7_readSign_15 (by decide) ?_
      refine lv_icmp_eq (tgt := 22) hx hb dX7_readSign_17 (by decide) (fun c9 => ?_) (fun c9 => ?_)
      · replace h := h.1 c9
        exact w22 p1 v_beats v_set v_times h s.heap [] ls hP hD hS (lv_sub hl [0, 1] rfl)
      · replace h := h.2 c9
        refine lv_iconst (v := 1) hx hb dX7_readSign_20 (by decide) ?_
        exact W.iret (v := 1) hx hb hr (fun t ht hW => ⟨⟨_, (v_beats, v_set, v_times), rfl, h, by rw [ht]; exact hP, hD⟩, hS.F ht⟩) hS.2.2 dX7_readSign_21
  · replace h := h.2 c7
    refine lv_iconst (v := 0) hx hb dX7_readSign_6 (by decide) ?_
    exact W.iret (v := 0) hx hb hr (fun t ht hW => ⟨⟨_, (v_beats, v_set, v_times), rfl, h, by rw [ht]; exact hP, hD⟩, hS.F ht⟩) hS.2.2 dX7_readSign_7

def wp_X7_read_j110 (v_count : Int32) (f_letters : (Nat → Int32)) (Q : Int32 → Int32 → Int32 → Int32 → Int32 → Prop) (s0 : Int32) (v_beats : Int32) (v_set : Int32) (v_times : Int32) (v_faultAt : Int32) : Prop := Q s0 v_beats v_set v_times v_faultAt
def wp_X7_read_j105 (v_count : Int32) (f_letters : (Nat → Int32)) (Q : Int32 → Int32 → Int32 → Int32 → Int32 → Prop) (v_beats : Int32) (v_set : Int32) (v_times : Int32) (v_faultAt : Int32) : Prop := wp_X7_read_j110 v_count f_letters Q 1 v_beats v_set v_times v_faultAt
def wp_X7_read_j66 (v_count : Int32) (f_letters : (Nat → Int32)) (L19 : Int32 → Int32 → Int32 → Int32 → Int32 → Prop) (Q : Int32 → Int32 → Int32 → Int32 → Int32 → Prop) (l1 : Int32) (l2 : Int32) (s0 : Int32) (v_beats : Int32) (v_set : Int32) (v_times : Int32) (v_faultAt : Int32) : Prop := (s0 = 0 → (∀ x2 : Int32, x2 = (l2 + l1) → L19 x2 v_beats v_set v_times v_faultAt)) ∧ (¬ s0 = 0 → (Q s0 v_beats v_set v_times v_faultAt))
def wp_X7_read_h19 (v_count : Int32) (f_letters : (Nat → Int32)) (Q : Int32 → Int32 → Int32 → Int32 → Int32 → Prop) : Nat → Int32 → Int32 → Int32 → Int32 → Int32 → Prop
  | 0, _, _, _, _, _ => False
  | z19 + 1, l2, v_beats, v_set, v_times, v_faultAt => (v_count ≤ l2 → ((¬ v_times = 0 → (wp_X7_read_j105 v_count f_letters Q v_beats v_set v_times v_count)) ∧ (v_times = 0 → ((¬ v_beats = 0 → (wp_X7_read_j110 v_count f_letters Q 0 v_beats v_set v_times v_count)) ∧ (v_beats = 0 → (wp_X7_read_j105 v_count f_letters Q v_beats v_set v_times v_count)))))) ∧ (¬ v_count ≤ l2 → (wp_X7_figuresFrom v_count f_letters l2 fun (r6 : Int32) => ∀ x7 : Int32, x7 = (if 1 < r6 then r6 else 1) → (r6 ≤ 0 → (wp_X7_letterAt v_count f_letters l2 fun (r9 : Int32) => wp_X7_readSign v_beats v_set v_times r9 fun (r10 : Int32) (u11 : Int32) (u12 : Int32) (u13 : Int32) => wp_X7_read_j66 v_count f_letters (wp_X7_read_h19 v_count f_letters Q z19) Q x7 l2 r10 u11 u12 u13 l2)) ∧ (¬ r6 ≤ 0 → (wp_X7_readNumber v_count v_times f_letters l2 r6 fun (r14 : Int32) (u15 : Int32) => wp_X7_read_j66 v_count f_letters (wp_X7_read_h19 v_count f_letters Q z19) Q x7 l2 r14 v_beats v_set u15 l2))))
def wp_X7_read (v_count : Int32) (v_beats : Int32) (v_set : Int32) (v_times : Int32) (v_faultAt : Int32) (f_letters : (Nat → Int32)) (Q : Int32 → Int32 → Int32 → Int32 → Int32 → Prop) : Prop := ∃ k16 : Nat, wp_X7_read_h19 v_count f_letters Q k16 0 0 0 0 v_faultAt
abbrev rmX7_read : Room := { frames := 2, cells := 0, slots := 0, locals := 44 }
set_option maxRecDepth 20000 in
theorem iX7_read_X7 : ∀ w ∈ wsX70, w ∈ wsX7_read := by decide +kernel
set_option maxHeartbeats 4000000 in
set_option maxRecDepth 100000 in
theorem c_X7_read (l : Launch) (dC : Nat → ClassId) (dI : Nat → Nat → Nat) (cI cZ : ClassId) (q0 q_letters : Nat) (sz : Nat) (v_count : Int32) (v_beats : Int32) (v_set : Int32) (v_times : Int32) (v_faultAt : Int32) (f_letters : (Nat → Int32))  (Q : Int32 → Int32 → Int32 → Int32 → Int32 → Prop) (h : wp_X7_read v_count v_beats v_set v_times v_faultAt f_letters Q) : Met l yX7_read wsX7_read (rmX7_read) (va_Pc [.ref q0] (fun U => U.heap.size = sz ∧ va_P (dC, dI) vwCl [(q0, .inr (4, [.ref q_letters, .int v_count, .int v_beats, .int v_set, .int v_times, .int v_faultAt])), (q_letters, .inl (cI, 60, .inl f_letters))] U.heap ∧ va_K (dC, dI) vwCl (tyZ cI cZ) U ∧ va_D (fun _ => True) [(q0, .inr (4, [.ref q_letters, .int v_count, .int v_beats, .int v_set, .int v_times, .int v_faultAt])), (q_letters, .inl (cI, 60, .inl f_letters))] ∧ nW U)) (va_Qi (fun (r : Int32) (u : Int32 × Int32 × Int32 × Int32) => Q r u.1 u.2.1 u.2.2.1 u.2.2.2) (fun (u : Int32 × Int32 × Int32 × Int32) (t : State) => va_P (dC, dI) vwCl [(q0, .inr (4, [.ref q_letters, .int v_count, .int u.1, .int u.2.1, .int u.2.2.1, .int u.2.2.2])), (q_letters, .inl (cI, 60, .inl f_letters))] t.heap ∧ va_D (va_A [(q0, .inr (4, [.ref q_letters, .int v_count, .int v_beats, .int v_set, .int v_times, .int v_faultAt])), (q_letters, .inl (cI, 60, .inl f_letters))] sz) [(q0, .inr (4, [.ref q_letters, .int v_count, .int u.1, .int u.2.1, .int u.2.2.1, .int u.2.2.2])), (q_letters, .inl (cI, 60, .inl f_letters))]) (va_A [(q0, .inr (4, [.ref q_letters, .int v_count, .int v_beats, .int v_set, .int v_times, .int v_faultAt])), (q_letters, .inl (cI, 60, .inl f_letters))] sz)) 0 0 (va_A [(q0, .inr (4, [.ref q_letters, .int v_count, .int v_beats, .int v_set, .int v_times, .int v_faultAt])), (q_letters, .inl (cI, 60, .inl f_letters))] sz) := by
  unfold wp_X7_read at h
  refine Met.ofW (cc := cX7_read) (maxL := 5) (ret := (some .int)) (by decide) rfl ?_
  intro p e s m args below meth c s₁ B hml hv
  obtain ⟨rfl, hsz, hP, hK, hD0, hN⟩ := hv
  have hx := B.exec
  have hb := B.bytes
  have hr := B.returns
  have hts := atoms_spec (ws := wsX7_read) B.pre
  have hown : s.vm.findClass RX7 = some m.cls := findClass_of_methodNamed B.named
  have hlocks := B.notSynchronized
  subst hsz
  have hD := hD0.self (sz := s.heap.size)
  generalize hAe : va_A [(q0, .inr (4, [.ref q_letters, .int v_count, .int v_beats, .int v_set, .int v_times, .int v_faultAt])), (q_letters, .inl (cI, 60, .inl f_letters))] s.heap.size = A at hD ⊢
  have hA : ∀ q : Nat, s.heap.size ≤ q → A q := fun q h => by rw [← hAe]; exact Or.inr h
  clear hAe
  have hS : va_S A s.heap s.heap [] := va_S.rf
  have w110 : ∀ (s0 : Int32) (v_beats : Int32) (v_set : Int32) (v_times : Int32) (v_faultAt : Int32), wp_X7_read_j110 v_count f_letters Q s0 v_beats v_set v_times v_faultAt → ∀ (H : Heap) (locs : List Loc) (ls : Array Slot), va_P (dC, dI) vwCl [(q0, .inr (4, [.ref q_letters, .int v_count, .int v_beats, .int v_set, .int v_times, .int v_faultAt])), (q_letters, .inl (cI, 60, .inl f_letters))] H → va_D A [(q0, .inr (4, [.ref q_letters, .int v_count, .int v_beats, .int v_set, .int v_times, .int v_faultAt])), (q_letters, .inl (cI, 60, .inl f_letters))] → va_S A s.heap H locs → lv_has ls 5 [] → W p l e (headSpec wsX7_read (rmX7_read)).room s m ([.ref q0] : List Value).toArray below meth c H locs 0 0 (MQ below (va_Qi (fun (r : Int32) (u : Int32 × Int32 × Int32 × Int32) => Q r u.1 u.2.1 u.2.2.1 u.2.2.2) (fun (u : Int32 × Int32 × Int32 × Int32) (t : State) => va_P (dC, dI) vwCl [(q0, .inr (4, [.ref q_letters, .int v_count, .int u.1, .int u.2.1, .int u.2.2.1, .int u.2.2.2])), (q_letters, .inl (cI, 60, .inl f_letters))] t.heap ∧ va_D A [(q0, .inr (4, [.ref q_letters, .int v_count, .int u.1, .int u.2.1, .int u.2.2.1, .int u.2.2.2])), (q_letters, .inl (cI, 60, .inl f_letters))]) A) ([.ref q0] : List Value).toArray s 0 0 A) (F0 m 110 ls [.int s0]) := by
    intro s0 v_beats v_set v_times v_faultAt h H locs ls hP hD hS hl
    unfold wp_X7_read_j110 at h
    exact W.iret (v := s0) hx hb hr (fun t ht hW => ⟨⟨_, (v_beats, v_set, v_times, v_faultAt), rfl, h, by rw [ht]; exact hP, hD⟩, hS.F ht⟩) hS.2.2 dX7_read_110
  have w105 : ∀ (v_beats : Int32) (v_set : Int32) (v_times : Int32) (v_faultAt : Int32), wp_X7_read_j105 v_count f_letters Q v_beats v_set v_times v_faultAt → ∀ (H : Heap) (locs : List Loc) (ls : Array Slot), va_P (dC, dI) vwCl [(q0, .inr (4, [.ref q_letters, .int v_count, .int v_beats, .int v_set, .int v_times, .int v_faultAt])), (q_letters, .inl (cI, 60, .inl f_letters))] H → va_D A [(q0, .inr (4, [.ref q_letters, .int v_count, .int v_beats, .int v_set, .int v_times, .int v_faultAt])), (q_letters, .inl (cI, 60, .inl f_letters))] → va_S A s.heap H locs → lv_has ls 5 [] → W p l e (headSpec wsX7_read (rmX7_read)).room s m ([.ref q0] : List Value).toArray below meth c H locs 0 0 (MQ below (va_Qi (fun (r : Int32) (u : Int32 × Int32 × Int32 × Int32) => Q r u.1 u.2.1 u.2.2.1 u.2.2.2) (fun (u : Int32 × Int32 × Int32 × Int32) (t : State) => va_P (dC, dI) vwCl [(q0, .inr (4, [.ref q_letters, .int v_count, .int u.1, .int u.2.1, .int u.2.2.1, .int u.2.2.2])), (q_letters, .inl (cI, 60, .inl f_letters))] t.heap ∧ va_D A [(q0, .inr (4, [.ref q_letters, .int v_count, .int u.1, .int u.2.1, .int u.2.2.1, .int u.2.2.2])), (q_letters, .inl (cI, 60, .inl f_letters))]) A) ([.ref q0] : List Value).toArray s 0 0 A) (F0 m 105 ls []) := by
    intro v_beats v_set v_times v_faultAt h H locs ls hP hD hS hl
    unfold wp_X7_read_j105 at h
    refine lv_iconst (v := 1) hx hb dX7_read_105 (by decide) ?_
    refine lv_goto (tgt := 110) hx hb dX7_read_106 (by decide) ?_
    exact w110 1 v_beats v_set v_times v_faultAt h H locs ls hP hD hS (lv_sub hl [] rfl)
  have w19 : ∀ (z19 : Nat) (l2 : Int32) (v_beats : Int32) (v_set : Int32) (v_times : Int32) (v_faultAt : Int32), wp_X7_read_h19 v_count f_letters Q z19 l2 v_beats v_set v_times v_faultAt → ∀ (H : Heap) (locs : List Loc) (ls : Array Slot), va_P (dC, dI) vwCl [(q0, .inr (4, [.ref q_letters, .int v_count, .int v_beats, .int v_set, .int v_times, .int v_faultAt])), (q_letters, .inl (cI, 60, .inl f_letters))] H → va_D A [(q0, .inr (4, [.ref q_letters, .int v_count, .int v_beats, .int v_set, .int v_times, .int v_faultAt])), (q_letters, .inl (cI, 60, .inl f_letters))] → va_S A s.heap H locs → lv_has ls 5 [(0, .ref q0), (2, .int l2)] → W p l e (headSpec wsX7_read (rmX7_read)).room s m ([.ref q0] : List Value).toArray below meth c H locs 0 0 (MQ below (va_Qi (fun (r : Int32) (u : Int32 × Int32 × Int32 × Int32) => Q r u.1 u.2.1 u.2.2.1 u.2.2.2) (fun (u : Int32 × Int32 × Int32 × Int32) (t : State) => va_P (dC, dI) vwCl [(q0, .inr (4, [.ref q_letters, .int v_count, .int u.1, .int u.2.1, .int u.2.2.1, .int u.2.2.2])), (q_letters, .inl (cI, 60, .inl f_letters))] t.heap ∧ va_D A [(q0, .inr (4, [.ref q_letters, .int v_count, .int u.1, .int u.2.1, .int u.2.2.1, .int u.2.2.2])), (q_letters, .inl (cI, 60, .inl f_letters))]) A) ([.ref q0] : List Value).toArray s 0 0 A) (F0 m 19 ls []) := by
    intro z19
    induction z19 with
    | zero => intro l2 v_beats v_set v_times v_faultAt h; unfold wp_X7_read_h19 at h; exact h.elim
    | succ z19 k19 =>
      have w66 : ∀ (l1 : Int32) (l2 : Int32) (s0 : Int32) (v_beats : Int32) (v_set : Int32) (v_times : Int32) (v_faultAt : Int32), wp_X7_read_j66 v_count f_letters (wp_X7_read_h19 v_count f_letters Q z19) Q l1 l2 s0 v_beats v_set v_times v_faultAt → ∀ (H : Heap) (locs : List Loc) (ls : Array Slot), va_P (dC, dI) vwCl [(q0, .inr (4, [.ref q_letters, .int v_count, .int v_beats, .int v_set, .int v_times, .int v_faultAt])), (q_letters, .inl (cI, 60, .inl f_letters))] H → va_D A [(q0, .inr (4, [.ref q_letters, .int v_count, .int v_beats, .int v_set, .int v_times, .int v_faultAt])), (q_letters, .inl (cI, 60, .inl f_letters))] → va_S A s.heap H locs → lv_has ls 5 [(0, .ref q0), (1, .int l1), (2, .int l2)] → W p l e (headSpec wsX7_read (rmX7_read)).room s m ([.ref q0] : List Value).toArray below meth c H locs 0 0 (MQ below (va_Qi (fun (r : Int32) (u : Int32 × Int32 × Int32 × Int32) => Q r u.1 u.2.1 u.2.2.1 u.2.2.2) (fun (u : Int32 × Int32 × Int32 × Int32) (t : State) => va_P (dC, dI) vwCl [(q0, .inr (4, [.ref q_letters, .int v_count, .int u.1, .int u.2.1, .int u.2.2.1, .int u.2.2.2])), (q_letters, .inl (cI, 60, .inl f_letters))] t.heap ∧ va_D A [(q0, .inr (4, [.ref q_letters, .int v_count, .int u.1, .int u.2.1, .int u.2.2.1, .int u.2.2.2])), (q_letters, .inl (cI, 60, .inl f_letters))]) A) ([.ref q0] : List Value).toArray s 0 0 A) (F0 m 66 ls [.int s0]) := by
        intro l1 l2 s0 v_beats v_set v_times v_faultAt h H locs ls hP hD hS hl
        unfold wp_X7_read_j66 at h
        refine lv_istore (lv' := [(4, .int s0), (0, .ref q0), (1, .int l1), (2, .int l2)]) hx hb dX7_read_66 hl (by decide) rfl (fun ls hl => ?_)
        refine lv_iload hx hb dX7_read_68 (lv_at hl 0 rfl) ?_
        refine lv_if_eq (tgt := 76) hx hb dX7_read_70 (by decide) (fun c1 => ?_) (fun c1 => ?_)
        · replace h := h.1 c1
          refine lv_iload_n hx hb dX7_read_76 rfl (lv_at hl 3 rfl) ?_
          refine lv_iload_n hx hb dX7_read_77 rfl (lv_at hl 2 rfl) ?_
          refine lv_iadd hx hb dX7_read_78 ?_
          refine lv_topi (fun x2 ex2 => ?_)
          replace h := h x2 ex2
          refine lv_istore_n (lv' := [(2, .int x2), (4, .int s0), (0, .ref q0), (1, .int l1)]) hx hb dX7_read_79 rfl hl (by decide) rfl (fun ls hl => ?_)
          refine lv_goto (tgt := 19) hx hb dX7_read_80 (by decide) ?_
          exact k19 x2 v_beats v_set v_times v_faultAt h H locs ls hP hD hS (lv_sub hl [2, 0] rfl)
        · replace h := h.2 c1
          refine lv_iload hx hb dX7_read_73 (lv_at hl 0 rfl) ?_
          exact W.iret (v := s0) hx hb hr (fun t ht hW => ⟨⟨_, (v_beats, v_set, v_times, v_faultAt), rfl, h, by rw [ht]; exact hP, hD⟩, hS.F ht⟩) hS.2.2 dX7_read_75
      intro l2 v_beats v_set v_times v_faultAt h H locs ls hP hD hS hl
      unfold wp_X7_read_h19 at h
      refine lv_iload_n hx hb dX7_read_19 rfl (lv_at hl 1 rfl) ?_
      refine lv_aload_n hx hb dX7_read_20 rfl (lv_at hl 0 rfl) ?_
      refine va_get (D := (dC, dI)) (ci := 4) (v := .int v_count) (C := RX7) (T := TX7) (N := 6) hx hb hts iX7_read_X7 hown hK hP 0 rfl rfl 1 (by decide) (hts (.fieldLink RX7 18 "TilingBeats$Text" "count" "I") (by decide +kernel)) (fun _ h9 => h9) rfl dX7_read_21 ?_
      refine lv_icmp_ge (tgt := 83) hx hb dX7_read_24 (by decide) (fun c3 => ?_) (fun c3 => ?_)
      · replace h := h.1 c3
        refine lv_aload_n hx hb dX7_read_83 rfl (lv_at hl 0 rfl) ?_
        refine lv_aload_n hx hb dX7_read_84 rfl (lv_at hl 0 rfl) ?_
        refine va_get (D := (dC, dI)) (ci := 4) (v := .int v_count) (C := RX7) (T := TX7) (N := 6) hx hb hts iX7_read_X7 hown hK hP 0 rfl rfl 1 (by decide) (hts (.fieldLink RX7 18 "TilingBeats$Text" "count" "I") (by decide +kernel)) (fun _ h9 => h9) rfl dX7_read_85 ?_
        refine va_put (D := (dC, dI)) (ci := 4) (v := .int v_count) (ty := .int) (C := RX7) (T := TX7) (N := 6) hx hb hts iX7_read_X7 tyX7 tyX7_ok nmX7 hown hK hP hD hS 0 rfl rfl 5 (by decide) (hts (.fieldLink RX7 42 "TilingBeats$Text" "faultAt" "I") (by decide +kernel)) (fun _ h9 => h9) rfl (by decide +kernel) rfl rfl (Nat.le_of_ble_eq_true rfl) dX7_read_88 (fun H locs hP hD hS => ?_)
        have hP : va_P (dC, dI) vwCl [(q0, .inr (4, [.ref q_letters, .int v_count, .int v_beats, .int v_set, .int v_times, .int v_count])), (q_letters, .inl (cI, 60, .inl f_letters))] H := hP
        have hD : va_D A [(q0, .inr (4, [.ref q_letters, .int v_count, .int v_beats, .int v_set, .int v_times, .int v_count])), (q_letters, .inl (cI, 60, .inl f_letters))] := hD
        refine lv_aload_n hx hb dX7_read_91 rfl (lv_at hl 0 rfl) ?_
        refine va_get (D := (dC, dI)) (ci := 4) (v := .int v_times) (C := RX7) (T := TX7) (N := 6) hx hb hts iX7_read_X7 hown hK hP 0 rfl rfl 4 (by decide) (hts (.fieldLink RX7 29 "TilingBeats$Text" "times" "I") (by decide +kernel)) (fun _ h9 => h9) rfl dX7_read_92 ?_
        refine lv_if_ne (tgt := 105) hx hb dX7_read_95 (by decide) (fun c4 => ?_) (fun c4 => ?_)
        · replace h := h.1 c4
          exact w105 v_beats v_set v_times v_count h H locs ls hP hD hS (lv_sub hl [] rfl)
        · replace h := h.2 c4
          refine lv_aload_n hx hb dX7_read_98 rfl (lv_at hl 0 rfl) ?_
          refine va_get (D := (dC, dI)) (ci := 4) (v := .int v_beats) (C := RX7) (T := TX7) (N := 6) hx hb hts iX7_read_X7 hown hK hP 0 rfl rfl 2 (by decide) (hts (.fieldLink RX7 23 "TilingBeats$Text" "beats" "I") (by decide +kernel)) (fun _ h9 => h9) rfl dX7_read_99 ?_
          refine lv_if_ne (tgt := 109) hx hb dX7_read_102 (by decide) (fun c5 => ?_) (fun c5 => ?_)
          · replace h := h.1 c5
            refine lv_iconst (v := 0) hx hb dX7_read_109 (by decide) ?_
            exact w110 0 v_beats v_set v_times v_count h H locs ls hP hD hS (lv_sub hl [] rfl)
          · replace h := h.2 c5
            exact w105 v_beats v_set v_times v_count h H locs ls hP hD hS (lv_sub hl [] rfl)
      · replace h := h.2 c3
        refine lv_aload_n hx hb dX7_read_27 rfl (lv_at hl 0 rfl) ?_
        refine lv_iload_n hx hb dX7_read_28 rfl (lv_at hl 1 rfl) ?_
        have hPc := hP.sub (ws' := [(q0, .inr (4, [.ref q_letters, .int v_count, .int v_beats, .int v_set, .int v_times, .int v_faultAt])), (q_letters, .inl (cI, 60, .inl f_letters))]) [0, 1] rfl
        refine vs_calli (va_runV (As := [.int l2]) (rest := []) ⟨hx, hb, hml, hown, hts⟩ (c_X7_figuresFrom l dC dI cI cZ q0 q_letters v_count v_beats v_set v_times v_faultAt f_letters l2 _ h) (cwV 1 hts gX7_read_X7_figuresFrom rfl rfl rfl (by decide +kernel) ⟨Nat.le_of_ble_eq_true rfl, Nat.le_of_ble_eq_true rfl⟩) ⟨fun a U g mk q => ⟨q.1, q.2.1, va_K.moved (u := U) (U := U.calling g mk a) (Vm.Alike.refl U.vm) q.2.2.1, nW_call q.2.2.2⟩, va_recv hK hPc (ci := 4) (q0 := 0) rfl rfl, fun U hU hW => ⟨rfl, by rw [hU]; exact hPc, va_K.moved hW.alike hK, nW_warm hW hN⟩⟩ rfl rfl hl.1 rfl (lv_room (Nat.le_of_ble_eq_true rfl)) dX7_read_29 ⟨Nat.le_of_ble_eq_true rfl, Nat.le_of_ble_eq_true rfl⟩) (fun r6 h => ?_)
        refine lv_istore_n (lv' := [(3, .int r6), (0, .ref q0), (2, .int l2)]) hx hb dX7_read_32 rfl hl (by decide) rfl (fun ls hl => ?_)
        refine lv_iconst (v := 1) hx hb dX7_read_33 (by decide) ?_
        refine lv_iload_n hx hb dX7_read_34 rfl (lv_at hl 0 rfl) ?_
        refine va_mmax hx hb (by rw [hml]; exact hl.1.symm) hown (hts (.methodLink RX7 36 Lib.Math.max.name) (by decide +kernel)) (hts (.static Lib.Math.max.name) (by decide +kernel)) (hts (.initialized "java/lang/Math") (by decide +kernel)) (hts (.code Lib.Math.max.name Lib.Math.max.code 2 (some .int)) (by decide +kernel)) (Nat.le_of_ble_eq_true rfl) (Nat.le_of_ble_eq_true rfl) (Nat.le_of_ble_eq_true rfl) (Nat.le_of_ble_eq_true rfl) dX7_read_35 ?_
        refine lv_topi (fun x7 ex7 => ?_)
        replace h := h x7 ex7
        refine lv_istore_n (lv' := [(1, .int x7), (3, .int r6), (0, .ref q0), (2, .int l2)]) hx hb dX7_read_38 rfl hl (by decide) rfl (fun ls hl => ?_)
        refine lv_aload_n hx hb dX7_read_39 rfl (lv_at hl 2 rfl) ?_
        refine lv_iload_n hx hb dX7_read_40 rfl (lv_at hl 3 rfl) ?_
        refine va_put (D := (dC, dI)) (ci := 4) (v := .int l2) (ty := .int) (C := RX7) (T := TX7) (N := 6) hx hb hts iX7_read_X7 tyX7 tyX7_ok nmX7 hown hK hP hD hS 0 rfl rfl 5 (by decide) (hts (.fieldLink RX7 42 "TilingBeats$Text" "faultAt" "I") (by decide +kernel)) (fun _ h9 => h9) rfl (by decide +kernel) rfl rfl (Nat.le_of_ble_eq_true rfl) dX7_read_41 (fun H locs hP hD hS => ?_)
        have hP : va_P (dC, dI) vwCl [(q0, .inr (4, [.ref q_letters, .int v_count, .int v_beats, .int v_set, .int v_times, .int l2])), (q_letters, .inl (cI, 60, .inl f_letters))] H := hP
        have hD : va_D A [(q0, .inr (4, [.ref q_letters, .int v_count, .int v_beats, .int v_set, .int v_times, .int l2])), (q_letters, .inl (cI, 60, .inl f_letters))] := hD
        refine lv_iload_n hx hb dX7_read_44 rfl (lv_at hl 1 rfl) ?_
        refine lv_if_le (tgt := 57) hx hb dX7_read_45 (by decide) (fun c8 => ?_) (fun c8 => ?_)
        · replace h := h.1 c8
          refine lv_aload_n hx hb dX7_read_57 rfl (lv_at hl 2 rfl) ?_
          refine lv_aload_n hx hb dX7_read_58 rfl (lv_at hl 2 rfl) ?_
          refine lv_iload_n hx hb dX7_read_59 rfl (lv_at hl 3 rfl) ?_
          have hPc := hP.sub (ws' := [(q0, .inr (4, [.ref q_letters, .int v_count, .int v_beats, .int v_set, .int v_times, .int l2])), (q_letters, .inl (cI, 60, .inl f_letters))]) [0, 1] rfl
          refine vs_calli (va_runV (As := [.int l2]) (rest := [.ref q0]) ⟨hx, hb, hml, hown, hts⟩ (c_X7_letterAt l dC dI cI cZ q0 q_letters v_count v_beats v_set v_times l2 f_letters l2 _ h) (cwV 1 hts gX7_read_X7_letterAt rfl rfl rfl (by decide +kernel) ⟨Nat.le_of_ble_eq_true rfl, Nat.le_of_ble_eq_true rfl⟩) ⟨fun a U g mk q => ⟨q.1, q.2.1, va_K.moved (u := U) (U := U.calling g mk a) (Vm.Alike.refl U.vm) q.2.2.1, nW_call q.2.2.2⟩, va_recv hK hPc (ci := 4) (q0 := 0) rfl rfl, fun U hU hW => ⟨rfl, by rw [hU]; exact hPc, va_K.moved hW.alike hK, nW_warm hW hN⟩⟩ rfl rfl hl.1 rfl (lv_room (Nat.le_of_ble_eq_true rfl)) dX7_read_60 ⟨Nat.le_of_ble_eq_true rfl, Nat.le_of_ble_eq_true rfl⟩) (fun r9 h => ?_)
          have hPc := hP.sub (ws' := [(q0, .inr (4, [.ref q_letters, .int v_count, .int v_beats, .int v_set, .int v_times, .int l2]))]) [0] rfl
          have hDc := hD.sub (ws' := [(q0, .inr (4, [.ref q_letters, .int v_count, .int v_beats, .int v_set, .int v_times, .int l2]))]) [0] (by decide) rfl
          have hFc := va_free (wc := [(q0, .inr (4, [.ref q_letters, .int v_count, .int v_beats, .int v_set, .int v_times, .int l2]))]) hD hS hA [0] rfl
          refine va_calli (va_runV (As := [.int r9]) (rest := []) ⟨hx, hb, hml, hown, hts⟩ (c_X7_readSign l dC dI cI cZ q0 q_letters H.size v_count v_beats v_set v_times l2 r9 _ h) (cwV 1 hts gX7_read_X7_readSign rfl rfl rfl (by decide +kernel) ⟨Nat.le_of_ble_eq_true rfl, Nat.le_of_ble_eq_true rfl⟩) ⟨fun a U g mk q => ⟨q.1, q.2.1, q.2.2.1, va_K.moved (u := U) (U := U.calling g mk a) (Vm.Alike.refl U.vm) q.2.2.2.1, q.2.2.2.2.1, nW_call q.2.2.2.2.2⟩, va_recv hK hPc (ci := 4) (q0 := 0) rfl rfl, fun U hU hW => ⟨rfl, by rw [hU], by rw [hU]; exact hPc, va_K.moved hW.alike hK, hDc.weaken (fun _ _ _ _ => trivial), nW_warm hW hN⟩⟩ rfl rfl hl.1 rfl (lv_room (Nat.le_of_ble_eq_true rfl)) dX7_read_63 ⟨Nat.le_of_ble_eq_true rfl, Nat.le_of_ble_eq_true rfl⟩) hS (fun q _ h => hFc q h) hFc (fun r10 u t H1 locs ht hvm hw hB hz1 hk1 hS => ?_)
          obtain ⟨u11, u12, u13⟩ := u
          obtain ⟨hP1, hD1⟩ := hB
          rw [ht] at hP1
          replace h := hw
          try dsimp only at h
          obtain ⟨hP, hD⟩ := va_join (wr := [(q_letters, .inl (cI, 60, .inl f_letters))]) (w1 := [(q0, .inr (4, [.ref q_letters, .int v_count, .int u11, .int u12, .int u13, .int l2]))]) hP hD [0] [1] rfl rfl (by decide) (by decide) hk1 hFc hP1 hD1
          clear hP1 hD1 hFc hDc hPc hk1 hz1 hw hvm ht
          generalize H1 = H at hP hS ⊢
          have hP : va_P (dC, dI) vwCl [(q0, .inr (4, [.ref q_letters, .int v_count, .int u11, .int u12, .int u13, .int l2])), (q_letters, .inl (cI, 60, .inl f_letters))] H := hP.sub [1, 0] rfl
          have hD : va_D A [(q0, .inr (4, [.ref q_letters, .int v_count, .int u11, .int u12, .int u13, .int l2])), (q_letters, .inl (cI, 60, .inl f_letters))] := hD.sub [1, 0] (by decide) rfl
          exact w66 x7 l2 r10 u11 u12 u13 l2 h H locs ls hP hD hS (lv_sub hl [2, 0, 3] rfl)
        · replace h := h.2 c8
          refine lv_aload_n hx hb dX7_read_48 rfl (lv_at hl 2 rfl) ?_
          refine lv_iload_n hx hb dX7_read_49 rfl (lv_at hl 3 rfl) ?_
          refine lv_iload_n hx hb dX7_read_50 rfl (lv_at hl 1 rfl) ?_
          have hPc := hP.sub (ws' := [(q0, .inr (4, [.ref q_letters, .int v_count, .int v_beats, .int v_set, .int v_times, .int l2])), (q_letters, .inl (cI, 60, .inl f_letters))]) [0, 1] rfl
          have hDc := hD.sub (ws' := [(q0, .inr (4, [.ref q_letters, .int v_count, .int v_beats, .int v_set, .int v_times, .int l2])), (q_letters, .inl (cI, 60, .inl f_letters))]) [0, 1] (by decide) rfl
          have hFc := va_free (wc := [(q0, .inr (4, [.ref q_letters, .int v_count, .int v_beats, .int v_set, .int v_times, .int l2])), (q_letters, .inl (cI, 60, .inl f_letters))]) hD hS hA [0, 1] rfl
          refine va_calli (va_runV (As := [.int l2, .int r6]) (rest := []) ⟨hx, hb, hml, hown, hts⟩ (c_X7_readNumber l dC dI cI cZ q0 q_letters H.size v_count v_beats v_set v_times l2 f_letters l2 r6 _ h) (cwV 2 hts gX7_read_X7_readNumber rfl rfl rfl (by decide +kernel) ⟨Nat.le_of_ble_eq_true rfl, Nat.le_of_ble_eq_true rfl⟩) ⟨fun a U g mk q => ⟨q.1, q.2.1, q.2.2.1, va_K.moved (u := U) (U := U.calling g mk a) (Vm.Alike.refl U.vm) q.2.2.2.1, q.2.2.2.2.1, nW_call q.2.2.2.2.2⟩, va_recv hK hPc (ci := 4) (q0 := 0) rfl rfl, fun U hU hW => ⟨rfl, by rw [hU], by rw [hU]; exact hPc, va_K.moved hW.alike hK, hDc.weaken (fun _ _ _ _ => trivial), nW_warm hW hN⟩⟩ rfl rfl hl.1 rfl (lv_room (Nat.le_of_ble_eq_true rfl)) dX7_read_51 ⟨Nat.le_of_ble_eq_true rfl, Nat.le_of_ble_eq_true rfl⟩) hS (fun q _ h => hFc q h) hFc (fun r14 u t H1 locs ht hvm hw hB hz1 hk1 hS => ?_)
          obtain ⟨u15, rfl⟩ : ∃ z, z = u := ⟨_, rfl⟩
          obtain ⟨hP1, hD1⟩ := hB
          rw [ht] at hP1
          replace h := hw
          try dsimp only at h
          obtain ⟨hP, hD⟩ := va_join (wr := []) (w1 := [(q0, .inr (4, [.ref q_letters, .int v_count, .int v_beats, .int v_set, .int u15, .int l2])), (q_letters, .inl (cI, 60, .inl f_letters))]) hP hD [0, 1] [] rfl rfl (by decide) (by decide) hk1 hFc hP1 hD1
          clear hP1 hD1 hFc hDc hPc hk1 hz1 hw hvm ht
          generalize H1 = H at hP hS ⊢
          have hP : va_P (dC, dI) vwCl [(q0, .inr (4, [.ref q_letters, .int v_count, .int v_beats, .int v_set, .int u15, .int l2])), (q_letters, .inl (cI, 60, .inl f_letters))] H := hP.sub [0, 1] rfl
          have hD : va_D A [(q0, .inr (4, [.ref q_letters, .int v_count, .int v_beats, .int v_set, .int u15, .int l2])), (q_letters, .inl (cI, 60, .inl f_letters))] := hD.sub [0, 1] (by decide) rfl
          refine lv_goto (tgt := 66) hx hb dX7_read_54 (by decide) ?_
          exact w66 x7 l2 r14 v_beats v_set u15 l2 h H locs ls hP hD hS (lv_sub hl [2, 0, 3] rfl)
  have hl := lv_entry ([.ref q0]) (n := 5) (Nat.le_of_ble_eq_true rfl)
  rw [lg_entry_eq]
  generalize (lg_sl ([.ref q0]) ++ List.replicate (5 - (lg_sl ([.ref q0])).length) Slot.unset).toArray = ls at hl ⊢
  have hl : lv_has ls 5 [(0, .ref q0)] := hl
  refine lv_aload_n hx hb dX7_read_0 rfl (lv_at hl 0 rfl) ?_
  refine lv_iconst (v := 0) hx hb dX7_read_1 (by decide) ?_
  refine va_put (D := (dC, dI)) (ci := 4) (v := .int 0) (ty := .int) (C := RX7) (T := TX7) (N := 6) hx hb hts iX7_read_X7 tyX7 tyX7_ok nmX7 hown hK hP hD hS 0 rfl rfl 2 (by decide) (hts (.fieldLink RX7 23 "TilingBeats$Text" "beats" "I") (by decide +kernel)) (fun _ h9 => h9) rfl (by decide +kernel) rfl rfl (Nat.le_of_ble_eq_true rfl) dX7_read_2 (fun H locs hP hD hS => ?_)
  have hP : va_P (dC, dI) vwCl [(q0, .inr (4, [.ref q_letters, .int v_count, .int 0, .int v_set, .int v_times, .int v_faultAt])), (q_letters, .inl (cI, 60, .inl f_letters))] H := hP
  have hD : va_D A [(q0, .inr (4, [.ref q_letters, .int v_count, .int 0, .int v_set, .int v_times, .int v_faultAt])), (q_letters, .inl (cI, 60, .inl f_letters))] := hD
  refine lv_aload_n hx hb dX7_read_5 rfl (lv_at hl 0 rfl) ?_
  refine lv_iconst (v := 0) hx hb dX7_read_6 (by decide) ?_
  refine va_put (D := (dC, dI)) (ci := 4) (v := .int 0) (ty := .int) (C := RX7) (T := TX7) (N := 6) hx hb hts iX7_read_X7 tyX7 tyX7_ok nmX7 hown hK hP hD hS 0 rfl rfl 3 (by decide) (hts (.fieldLink RX7 26 "TilingBeats$Text" "set" "I") (by decide +kernel)) (fun _ h9 => h9) rfl (by decide +kernel) rfl rfl (Nat.le_of_ble_eq_true rfl) dX7_read_7 (fun H locs hP hD hS => ?_)
  have hP : va_P (dC, dI) vwCl [(q0, .inr (4, [.ref q_letters, .int v_count, .int 0, .int 0, .int v_times, .int v_faultAt])), (q_letters, .inl (cI, 60, .inl f_letters))] H := hP
  have hD : va_D A [(q0, .inr (4, [.ref q_letters, .int v_count, .int 0, .int 0, .int v_times, .int v_faultAt])), (q_letters, .inl (cI, 60, .inl f_letters))] := hD
  refine lv_aload_n hx hb dX7_read_10 rfl (lv_at hl 0 rfl) ?_
  refine lv_iconst (v := 0) hx hb dX7_read_11 (by decide) ?_
  refine va_put (D := (dC, dI)) (ci := 4) (v := .int 0) (ty := .int) (C := RX7) (T := TX7) (N := 6) hx hb hts iX7_read_X7 tyX7 tyX7_ok nmX7 hown hK hP hD hS 0 rfl rfl 4 (by decide) (hts (.fieldLink RX7 29 "TilingBeats$Text" "times" "I") (by decide +kernel)) (fun _ h9 => h9) rfl (by decide +kernel) rfl rfl (Nat.le_of_ble_eq_true rfl) dX7_read_12 (fun H locs hP hD hS => ?_)
  have hP : va_P (dC, dI) vwCl [(q0, .inr (4, [.ref q_letters, .int v_count, .int 0, .int 0, .int 0, .int v_faultAt])), (q_letters, .inl (cI, 60, .inl f_letters))] H := hP
  have hD : va_D A [(q0, .inr (4, [.ref q_letters, .int v_count, .int 0, .int 0, .int 0, .int v_faultAt])), (q_letters, .inl (cI, 60, .inl f_letters))] := hD
  refine lv_iconst (v := 1) hx hb dX7_read_15 (by decide) ?_
  refine lv_istore_n (lv' := [(1, .int 1), (0, .ref q0)]) hx hb dX7_read_16 rfl hl (by decide) rfl (fun ls hl => ?_)
  refine lv_iconst (v := 0) hx hb dX7_read_17 (by decide) ?_
  refine lv_istore_n (lv' := [(2, .int 0), (1, .int 1), (0, .ref q0)]) hx hb dX7_read_18 rfl hl (by decide) rfl (fun ls hl => ?_)
  obtain ⟨k16, h⟩ := h
  exact w19 k16 0 0 0 0 v_faultAt h H locs ls hP hD hS (lv_sub hl [2, 0] rfl)

def wp_X8_at_j31 (n_sets : Nat) (v_count : Int32) (f_sets : (Nat → Int32)) (Q : Int32 → Prop) (s0 : Int32) : Prop := Q s0
def wp_X8_at_j21 (n_sets : Nat) (v_count : Int32) (f_sets : (Nat → Int32)) (Q : Int32 → Prop)  : Prop := wp_X8_at_j31 n_sets v_count f_sets Q (-1)
def wp_X8_at (n_sets : Nat) (v_count : Int32) (f_sets : (Nat → Int32)) (p1 : Int32) (Q : Int32 → Prop) : Prop := (p1 < 0 → (wp_X8_at_j21 n_sets v_count f_sets Q )) ∧ (¬ p1 < 0 → ((v_count ≤ p1 → (wp_X8_at_j21 n_sets v_count f_sets Q )) ∧ (¬ v_count ≤ p1 → ((p1 < (Int32.ofNat n_sets) → (vp_in p1 n_sets ∧ wp_X8_at_j31 n_sets v_count f_sets Q (f_sets (p1 : Int32).toNatClampNeg))) ∧ (¬ p1 < (Int32.ofNat n_sets) → (wp_X8_at_j21 n_sets v_count f_sets Q ))))))
abbrev rmX8_at : Room := { frames := 0, cells := 0, slots := 0, locals := 0 }
set_option maxRecDepth 20000 in
theorem iX8_at_X8 : ∀ w ∈ wsX80, w ∈ wsX8_at := by decide +kernel
set_option maxHeartbeats 4000000 in
set_option maxRecDepth 100000 in
theorem c_X8_at (l : Launch) (dC : Nat → ClassId) (dI : Nat → Nat → Nat) (cI cZ : ClassId) (q0 q_sets q_struck : Nat) (n_sets : Nat) (v_struckCount : Int32) (v_count : Int32) (v_beats : Int32) (v_rhythm : Int32) (f_sets : (Nat → Int32)) (p1 : Int32) (Q : Int32 → Prop) (h : wp_X8_at n_sets v_count f_sets p1 Q) : Met l yX8_at wsX8_at (rmX8_at) (va_Pc [.ref q0, .int p1] (fun U => va_P (dC, dI) vwCl [(q0, .inr (5, [.ref q_sets, .ref q_struck, .int v_struckCount, .int v_count, .int v_beats, .int v_rhythm])), (q_sets, .inl (cI, n_sets, .inl f_sets))] U.heap ∧ va_K (dC, dI) vwCl (tyZ cI cZ) U ∧ nW U)) (vp_Si Q) 0 0 (fun _ => False) := by
  unfold wp_X8_at at h
  refine Met.ofW (cc := cX8_at) (maxL := 2) (ret := (some .int)) (by decide) rfl ?_
  intro p e s m args below meth c s₁ B hml hv
  obtain ⟨rfl, hP, hK, hN⟩ := hv
  have hx := B.exec
  have hb := B.bytes
  have hr := B.returns
  have hts := atoms_spec (ws := wsX8_at) B.pre
  have hown : s.vm.findClass RX8 = some m.cls := findClass_of_methodNamed B.named
  have hlocks := B.notSynchronized
  have w31 : ∀ (s0 : Int32), wp_X8_at_j31 n_sets v_count f_sets Q s0 → ∀ (ls : Array Slot), lv_has ls 2 [] → W p l e (headSpec wsX8_at (rmX8_at)).room s m ([.ref q0, .int p1] : List Value).toArray below meth c s.heap [] 0 0 (MQ below (vp_Si Q) ([.ref q0, .int p1] : List Value).toArray s 0 0 (fun _ => False)) (F0 m 31 ls [.int s0]) := by
    intro s0 h ls hl
    unfold wp_X8_at_j31 at h
    exact W.iret (v := s0) hx hb hr (fun t ht hW => ⟨_, rfl, h, ht⟩) (fun _ h => by cases h) dX8_at_31
  have w21 : wp_X8_at_j21 n_sets v_count f_sets Q → ∀ (ls : Array Slot), lv_has ls 2 [] → W p l e (headSpec wsX8_at (rmX8_at)).room s m ([.ref q0, .int p1] : List Value).toArray below meth c s.heap [] 0 0 (MQ below (vp_Si Q) ([.ref q0, .int p1] : List Value).toArray s 0 0 (fun _ => False)) (F0 m 21 ls []) := by
    intro  h ls hl
    unfold wp_X8_at_j21 at h
    refine lv_iconst (v := (-1)) hx hb dX8_at_21 (by decide) ?_
    refine lv_goto (tgt := 31) hx hb dX8_at_22 (by decide) ?_
    exact w31 (-1) h ls (lv_sub hl [] rfl)
  have hl := lv_entry ([.ref q0, .int p1]) (n := 2) (Nat.le_of_ble_eq_true rfl)
  rw [lg_entry_eq]
  generalize (lg_sl ([.ref q0, .int p1]) ++ List.replicate (2 - (lg_sl ([.ref q0, .int p1])).length) Slot.unset).toArray = ls at hl ⊢
  have hl : lv_has ls 2 [(0, .ref q0), (1, .int p1)] := hl
  refine lv_iload_n hx hb dX8_at_0 rfl (lv_at hl 1 rfl) ?_
  refine lv_if_lt (tgt := 21) hx hb dX8_at_1 (by decide) (fun c1 => ?_) (fun c1 => ?_)
  · replace h := h.1 c1
    exact w21  h ls (lv_sub hl [] rfl)
  · replace h := h.2 c1
    refine lv_iload_n hx hb dX8_at_4 rfl (lv_at hl 1 rfl) ?_
    refine lv_aload_n hx hb dX8_at_5 rfl (lv_at hl 0 rfl) ?_
    refine va_get (D := (dC, dI)) (ci := 5) (v := .int v_count) (C := RX8) (T := TX8) (N := 6) hx hb hts iX8_at_X8 hown hK hP 0 rfl rfl 3 (by decide) (hts (.fieldLink RX8 28 "TilingBeats$Tilings" "count" "I") (by decide +kernel)) (fun _ h9 => h9) rfl dX8_at_6 ?_
    refine lv_icmp_ge (tgt := 21) hx hb dX8_at_9 (by decide) (fun c2 => ?_) (fun c2 => ?_)
    · replace h := h.1 c2
      exact w21  h ls (lv_sub hl [] rfl)
    · replace h := h.2 c2
      refine lv_iload_n hx hb dX8_at_12 rfl (lv_at hl 1 rfl) ?_
      refine lv_aload_n hx hb dX8_at_13 rfl (lv_at hl 0 rfl) ?_
      refine va_get (D := (dC, dI)) (ci := 5) (v := .ref q_sets) (C := RX8) (T := TX8) (N := 6) hx hb hts iX8_at_X8 hown hK hP 0 rfl rfl 0 (by decide) (hts (.fieldLink RX8 15 "TilingBeats$Tilings" "sets" "[I") (by decide +kernel)) (fun _ h9 => h9) rfl dX8_at_14 ?_
      refine va_alen (D := (dC, dI)) (v := (Int32.ofNat n_sets)) hx hb hK hP 1 0 rfl rfl rfl dX8_at_17 ?_
      refine lv_icmp_lt (tgt := 25) hx hb dX8_at_18 (by decide) (fun c3 => ?_) (fun c3 => ?_)
      · replace h := h.1 c3
        refine lv_aload_n hx hb dX8_at_25 rfl (lv_at hl 0 rfl) ?_
        refine va_get (D := (dC, dI)) (ci := 5) (v := .ref q_sets) (C := RX8) (T := TX8) (N := 6) hx hb hts iX8_at_X8 hown hK hP 0 rfl rfl 0 (by decide) (hts (.fieldLink RX8 15 "TilingBeats$Tilings" "sets" "[I") (by decide +kernel)) (fun _ h9 => h9) rfl dX8_at_26 ?_
        refine lv_iload_n hx hb dX8_at_29 rfl (lv_at hl 1 rfl) ?_
        refine va_iald (D := (dC, dI)) hx hb hK hP 1 0 rfl rfl h.1 dX8_at_30 ?_
        replace h := h.2
        exact w31 (f_sets (p1 : Int32).toNatClampNeg) h ls (lv_sub hl [] rfl)
      · replace h := h.2 c3
        exact w21  h ls (lv_sub hl [] rfl)
