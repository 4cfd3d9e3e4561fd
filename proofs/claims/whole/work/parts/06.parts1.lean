def wp_X1_clear (v_count : Int32) (Q : Int32 → Prop) : Prop := Q 0
abbrev rmX1_clear : Room := { frames := 0, cells := 0, slots := 0, locals := 0 }
set_option maxRecDepth 20000 in
theorem iX1_clear_X1 : ∀ w ∈ wsX10, w ∈ wsX1_clear := by decide +kernel
set_option maxHeartbeats 4000000 in
set_option maxRecDepth 100000 in
theorem c_X1_clear (l : Launch) (dC : Nat → ClassId) (dI : Nat → Nat → Nat) (cI cZ : ClassId) (q0 q_heard q_struck : Nat) (sz : Nat) (v_count : Int32)  (Q : Int32 → Prop) (h : wp_X1_clear v_count Q) : Met l yX1_clear wsX1_clear (rmX1_clear) (va_Pc [.ref q0] (fun U => U.heap.size = sz ∧ va_P (dC, dI) vwCl [(q0, .inr (0, [.ref q_heard, .ref q_struck, .int v_count]))] U.heap ∧ va_K (dC, dI) vwCl (tyZ cI cZ) U ∧ va_D (fun _ => True) [(q0, .inr (0, [.ref q_heard, .ref q_struck, .int v_count]))] ∧ nW U)) (va_Qv (fun (u : Int32) => Q u) (fun (u : Int32) (t : State) => va_P (dC, dI) vwCl [(q0, .inr (0, [.ref q_heard, .ref q_struck, .int u]))] t.heap ∧ va_D (va_A [(q0, .inr (0, [.ref q_heard, .ref q_struck, .int v_count]))] sz) [(q0, .inr (0, [.ref q_heard, .ref q_struck, .int u]))]) (va_A [(q0, .inr (0, [.ref q_heard, .ref q_struck, .int v_count]))] sz)) 0 0 (va_A [(q0, .inr (0, [.ref q_heard, .ref q_struck, .int v_count]))] sz) := by
  unfold wp_X1_clear at h
  refine Met.ofW (cc := cX1_clear) (maxL := 1) (ret := none) (by decide) rfl ?_
  intro p e s m args below meth c s₁ B hml hv
  obtain ⟨rfl, hsz, hP, hK, hD0, hN⟩ := hv
  have hx := B.exec
  have hb := B.bytes
  have hr := B.returns
  have hts := atoms_spec (ws := wsX1_clear) B.pre
  have hown : s.vm.findClass RX1 = some m.cls := findClass_of_methodNamed B.named
  have hlocks := B.notSynchronized
  subst hsz
  have hD := hD0.self (sz := s.heap.size)
  generalize hAe : va_A [(q0, .inr (0, [.ref q_heard, .ref q_struck, .int v_count]))] s.heap.size = A at hD ⊢
  have hA : ∀ q : Nat, s.heap.size ≤ q → A q := fun q h => by rw [← hAe]; exact Or.inr h
  clear hAe
  have hS : va_S A s.heap s.heap [] := va_S.rf
  have hl := lv_entry ([.ref q0]) (n := 1) (Nat.le_of_ble_eq_true rfl)
  rw [lg_entry_eq]
  generalize (lg_sl ([.ref q0]) ++ List.replicate (1 - (lg_sl ([.ref q0])).length) Slot.unset).toArray = ls at hl ⊢
  have hl : lv_has ls 1 [(0, .ref q0)] := hl
  refine lv_aload_n hx hb dX1_clear_0 rfl (lv_at hl 0 rfl) ?_
  refine lv_iconst (v := 0) hx hb dX1_clear_1 (by decide) ?_
  refine va_put (D := (dC, dI)) (ci := 0) (v := .int 0) (ty := .int) (C := RX1) (T := TX1) (N := 3) hx hb hts iX1_clear_X1 tyX1 tyX1_ok nmX1 hown hK hP hD hS 0 rfl rfl 2 (by decide) (hts (.fieldLink RX1 22 "TilingBeats$Ear" "count" "I") (by decide +kernel)) (fun _ h9 => h9) rfl (by decide +kernel) rfl rfl (Nat.le_of_ble_eq_true rfl) dX1_clear_2 (fun H locs hP hD hS => ?_)
  have hP : va_P (dC, dI) vwCl [(q0, .inr (0, [.ref q_heard, .ref q_struck, .int 0]))] H := hP
  have hD : va_D A [(q0, .inr (0, [.ref q_heard, .ref q_struck, .int 0]))] := hD
  exact W.vret hx hb hr (fun t ht hW => ⟨⟨0, rfl, h, by rw [ht]; exact hP, hD⟩, hS.F ht⟩) hS.2.2 dX1_clear_5

def wp_X1_add_j16 (Q : Int32 → Int32 → (Nat → Int32) → (Nat → Int32) → Prop) (v_count : Int32) (f_heard : (Nat → Int32)) (f_struck : (Nat → Int32)) : Prop := Q (-1000000004) v_count f_heard f_struck
def wp_X1_add (v_count : Int32) (f_heard : (Nat → Int32)) (f_struck : (Nat → Int32)) (p1 : Int32) (p2 : Int32) (Q : Int32 → Int32 → (Nat → Int32) → (Nat → Int32) → Prop) : Prop := (v_count < 0 → (wp_X1_add_j16 Q v_count f_heard f_struck)) ∧ (¬ v_count < 0 → ((v_count < 8 → (vp_in v_count 8 ∧ ∀ g3 : Nat → Int32, g3 = upd f_heard (v_count : Int32).toNatClampNeg p1 → vp_in v_count 8 ∧ ∀ g4 : Nat → Int32, g4 = upd f_struck (v_count : Int32).toNatClampNeg (vp_nar .boolean p2) → ∀ x5 : Int32, x5 = (v_count + 1) → Q x5 x5 g3 g4)) ∧ (¬ v_count < 8 → (wp_X1_add_j16 Q v_count f_heard f_struck))))
abbrev rmX1_add : Room := { frames := 0, cells := 0, slots := 0, locals := 0 }
set_option maxRecDepth 20000 in
theorem iX1_add_X1 : ∀ w ∈ wsX10, w ∈ wsX1_add := by decide +kernel
set_option maxHeartbeats 4000000 in
set_option maxRecDepth 100000 in
theorem c_X1_add (l : Launch) (dC : Nat → ClassId) (dI : Nat → Nat → Nat) (cI cZ : ClassId) (q0 q_heard q_struck : Nat) (sz : Nat) (v_count : Int32) (f_heard : (Nat → Int32)) (f_struck : (Nat → Int32)) (p1 : Int32) (p2 : Int32) (Q : Int32 → Int32 → (Nat → Int32) → (Nat → Int32) → Prop) (h : wp_X1_add v_count f_heard f_struck p1 p2 Q) : Met l yX1_add wsX1_add (rmX1_add) (va_Pc [.ref q0, .int p1, .int p2] (fun U => U.heap.size = sz ∧ va_P (dC, dI) vwCl [(q0, .inr (0, [.ref q_heard, .ref q_struck, .int v_count])), (q_heard, .inl (cI, 8, .inl f_heard)), (q_struck, .inl (cZ, 8, .inl f_struck))] U.heap ∧ va_K (dC, dI) vwCl (tyZ cI cZ) U ∧ va_D (fun _ => True) [(q0, .inr (0, [.ref q_heard, .ref q_struck, .int v_count])), (q_heard, .inl (cI, 8, .inl f_heard)), (q_struck, .inl (cZ, 8, .inl f_struck))] ∧ nW U)) (va_Qi (fun (r : Int32) (u : Int32 × (Nat → Int32) × (Nat → Int32)) => Q r u.1 u.2.1 u.2.2) (fun (u : Int32 × (Nat → Int32) × (Nat → Int32)) (t : State) => va_P (dC, dI) vwCl [(q0, .inr (0, [.ref q_heard, .ref q_struck, .int u.1])), (q_heard, .inl (cI, 8, .inl u.2.1)), (q_struck, .inl (cZ, 8, .inl u.2.2))] t.heap ∧ va_D (va_A [(q0, .inr (0, [.ref q_heard, .ref q_struck, .int v_count])), (q_heard, .inl (cI, 8, .inl f_heard)), (q_struck, .inl (cZ, 8, .inl f_struck))] sz) [(q0, .inr (0, [.ref q_heard, .ref q_struck, .int u.1])), (q_heard, .inl (cI, 8, .inl u.2.1)), (q_struck, .inl (cZ, 8, .inl u.2.2))]) (va_A [(q0, .inr (0, [.ref q_heard, .ref q_struck, .int v_count])), (q_heard, .inl (cI, 8, .inl f_heard)), (q_struck, .inl (cZ, 8, .inl f_struck))] sz)) 0 0 (va_A [(q0, .inr (0, [.ref q_heard, .ref q_struck, .int v_count])), (q_heard, .inl (cI, 8, .inl f_heard)), (q_struck, .inl (cZ, 8, .inl f_struck))] sz) := by
  unfold wp_X1_add at h
  refine Met.ofW (cc := cX1_add) (maxL := 3) (ret := (some .int)) (by decide) rfl ?_
  intro p e s m args below meth c s₁ B hml hv
  obtain ⟨rfl, hsz, hP, hK, hD0, hN⟩ := hv
  have hx := B.exec
  have hb := B.bytes
  have hr := B.returns
  have hts := atoms_spec (ws := wsX1_add) B.pre
  have hown : s.vm.findClass RX1 = some m.cls := findClass_of_methodNamed B.named
  have hlocks := B.notSynchronized
  subst hsz
  have hD := hD0.self (sz := s.heap.size)
  generalize hAe : va_A [(q0, .inr (0, [.ref q_heard, .ref q_struck, .int v_count])), (q_heard, .inl (cI, 8, .inl f_heard)), (q_struck, .inl (cZ, 8, .inl f_struck))] s.heap.size = A at hD ⊢
  have hA : ∀ q : Nat, s.heap.size ≤ q → A q := fun q h => by rw [← hAe]; exact Or.inr h
  clear hAe
  have hS : va_S A s.heap s.heap [] := va_S.rf
  have w16 : ∀ (v_count : Int32) (f_heard : (Nat → Int32)) (f_struck : (Nat → Int32)), wp_X1_add_j16 Q v_count f_heard f_struck → ∀ (H : Heap) (locs : List Loc) (ls : Array Slot), va_P (dC, dI) vwCl [(q0, .inr (0, [.ref q_heard, .ref q_struck, .int v_count])), (q_heard, .inl (cI, 8, .inl f_heard)), (q_struck, .inl (cZ, 8, .inl f_struck))] H → va_D A [(q0, .inr (0, [.ref q_heard, .ref q_struck, .int v_count])), (q_heard, .inl (cI, 8, .inl f_heard)), (q_struck, .inl (cZ, 8, .inl f_struck))] → va_S A s.heap H locs → lv_has ls 3 [] → W p l e (headSpec wsX1_add (rmX1_add)).room s m ([.ref q0, .int p1, .int p2] : List Value).toArray below meth c H locs 0 0 (MQ below (va_Qi (fun (r : Int32) (u : Int32 × (Nat → Int32) × (Nat → Int32)) => Q r u.1 u.2.1 u.2.2) (fun (u : Int32 × (Nat → Int32) × (Nat → Int32)) (t : State) => va_P (dC, dI) vwCl [(q0, .inr (0, [.ref q_heard, .ref q_struck, .int u.1])), (q_heard, .inl (cI, 8, .inl u.2.1)), (q_struck, .inl (cZ, 8, .inl u.2.2))] t.heap ∧ va_D A [(q0, .inr (0, [.ref q_heard, .ref q_struck, .int u.1])), (q_heard, .inl (cI, 8, .inl u.2.1)), (q_struck, .inl (cZ, 8, .inl u.2.2))]) A) ([.ref q0, .int p1, .int p2] : List Value).toArray s 0 0 A) (F0 m 16 ls []) := by
    intro v_count f_heard f_struck h H locs ls hP hD hS hl
    unfold wp_X1_add_j16 at h
    refine lv_ldc (v := (-1000000004)) hx hb hown (hts (.constant RX1 26 (-1000000004)) (by decide +kernel)) dX1_add_16 ?_
    exact W.iret (v := (-1000000004)) hx hb hr (fun t ht hW => ⟨⟨_, (v_count, f_heard, f_struck), rfl, h, by rw [ht]; exact hP, hD⟩, hS.F ht⟩) hS.2.2 dX1_add_18
  have hl := lv_entry ([.ref q0, .int p1, .int p2]) (n := 3) (Nat.le_of_ble_eq_true rfl)
  rw [lg_entry_eq]
  generalize (lg_sl ([.ref q0, .int p1, .int p2]) ++ List.replicate (3 - (lg_sl ([.ref q0, .int p1, .int p2])).length) Slot.unset).toArray = ls at hl ⊢
  have hl : lv_has ls 3 [(0, .ref q0), (1, .int p1), (2, .int p2)] := hl
  refine lv_aload_n hx hb dX1_add_0 rfl (lv_at hl 0 rfl) ?_
  refine va_get (D := (dC, dI)) (ci := 0) (v := .int v_count) (C := RX1) (T := TX1) (N := 3) hx hb hts iX1_add_X1 hown hK hP 0 rfl rfl 2 (by decide) (hts (.fieldLink RX1 22 "TilingBeats$Ear" "count" "I") (by decide +kernel)) (fun _ h9 => h9) rfl dX1_add_1 ?_
  refine lv_if_lt (tgt := 16) hx hb dX1_add_4 (by decide) (fun c1 => ?_) (fun c1 => ?_)
  · replace h := h.1 c1
    exact w16 v_count f_heard f_struck h s.heap [] ls hP hD hS (lv_sub hl [] rfl)
  · replace h := h.2 c1
    refine lv_aload_n hx hb dX1_add_7 rfl (lv_at hl 0 rfl) ?_
    refine va_get (D := (dC, dI)) (ci := 0) (v := .int v_count) (C := RX1) (T := TX1) (N := 3) hx hb hts iX1_add_X1 hown hK hP 0 rfl rfl 2 (by decide) (hts (.fieldLink RX1 22 "TilingBeats$Ear" "count" "I") (by decide +kernel)) (fun _ h9 => h9) rfl dX1_add_8 ?_
    refine lv_bipush (v := 8) hx hb dX1_add_11 (by decide) ?_
    refine lv_icmp_lt (tgt := 19) hx hb dX1_add_13 (by decide) (fun c2 => ?_) (fun c2 => ?_)
    · replace h := h.1 c2
      refine lv_aload_n hx hb dX1_add_19 rfl (lv_at hl 0 rfl) ?_
      refine va_get (D := (dC, dI)) (ci := 0) (v := .ref q_heard) (C := RX1) (T := TX1) (N := 3) hx hb hts iX1_add_X1 hown hK hP 0 rfl rfl 0 (by decide) (hts (.fieldLink RX1 9 "TilingBeats$Ear" "heard" "[I") (by decide +kernel)) (fun _ h9 => h9) rfl dX1_add_20 ?_
      refine lv_aload_n hx hb dX1_add_23 rfl (lv_at hl 0 rfl) ?_
      refine va_get (D := (dC, dI)) (ci := 0) (v := .int v_count) (C := RX1) (T := TX1) (N := 3) hx hb hts iX1_add_X1 hown hK hP 0 rfl rfl 2 (by decide) (hts (.fieldLink RX1 22 "TilingBeats$Ear" "count" "I") (by decide +kernel)) (fun _ h9 => h9) rfl dX1_add_24 ?_
      refine lv_iload_n hx hb dX1_add_27 rfl (lv_at hl 1 rfl) ?_
      refine va_iast (D := (dC, dI)) hx hb hK hP hD hS 1 0 rfl rfl h.1 dX1_add_28 (fun H locs hP hD hS => ?_)
      obtain ⟨g3, eg3⟩ : ∃ y : Nat → Int32, y = upd f_heard (v_count : Int32).toNatClampNeg p1 := ⟨_, rfl⟩
      replace h := h.2 g3 eg3
      rw [← eg3] at hP hD
      have hP : va_P (dC, dI) vwCl [(q0, .inr (0, [.ref q_heard, .ref q_struck, .int v_count])), (q_heard, .inl (cI, 8, .inl g3)), (q_struck, .inl (cZ, 8, .inl f_struck))] H := hP
      have hD : va_D A [(q0, .inr (0, [.ref q_heard, .ref q_struck, .int v_count])), (q_heard, .inl (cI, 8, .inl g3)), (q_struck, .inl (cZ, 8, .inl f_struck))] := hD
      refine lv_aload_n hx hb dX1_add_29 rfl (lv_at hl 0 rfl) ?_
      refine va_get (D := (dC, dI)) (ci := 0) (v := .ref q_struck) (C := RX1) (T := TX1) (N := 3) hx hb hts iX1_add_X1 hown hK hP 0 rfl rfl 1 (by decide) (hts (.fieldLink RX1 15 "TilingBeats$Ear" "struck" "[Z") (by decide +kernel)) (fun _ h9 => h9) rfl dX1_add_30 ?_
      refine lv_aload_n hx hb dX1_add_33 rfl (lv_at hl 0 rfl) ?_
      refine va_get (D := (dC, dI)) (ci := 0) (v := .int v_count) (C := RX1) (T := TX1) (N := 3) hx hb hts iX1_add_X1 hown hK hP 0 rfl rfl 2 (by decide) (hts (.fieldLink RX1 22 "TilingBeats$Ear" "count" "I") (by decide +kernel)) (fun _ h9 => h9) rfl dX1_add_34 ?_
      refine lv_iload_n hx hb dX1_add_37 rfl (lv_at hl 2 rfl) ?_
      refine va_zast (D := (dC, dI)) hx hb hK hP hD hS 2 1 rfl rfl h.1 dX1_add_38 (fun H locs hP hD hS => ?_)
      obtain ⟨g4, eg4⟩ : ∃ y : Nat → Int32, y = upd f_struck (v_count : Int32).toNatClampNeg (vp_nar .boolean p2) := ⟨_, rfl⟩
      replace h := h.2 g4 eg4
      rw [← eg4] at hP hD
      have hP : va_P (dC, dI) vwCl [(q0, .inr (0, [.ref q_heard, .ref q_struck, .int v_count])), (q_heard, .inl (cI, 8, .inl g3)), (q_struck, .inl (cZ, 8, .inl g4))] H := hP
      have hD : va_D A [(q0, .inr (0, [.ref q_heard, .ref q_struck, .int v_count])), (q_heard, .inl (cI, 8, .inl g3)), (q_struck, .inl (cZ, 8, .inl g4))] := hD
      refine lv_aload_n hx hb dX1_add_39 rfl (lv_at hl 0 rfl) ?_
      refine lv_dup hx hb dX1_add_40 rfl ?_
      refine va_get (D := (dC, dI)) (ci := 0) (v := .int v_count) (C := RX1) (T := TX1) (N := 3) hx hb hts iX1_add_X1 hown hK hP 0 rfl rfl 2 (by decide) (hts (.fieldLink RX1 22 "TilingBeats$Ear" "count" "I") (by decide +kernel)) (fun _ h9 => h9) rfl dX1_add_41 ?_
      refine lv_iconst (v := 1) hx hb dX1_add_44 (by decide) ?_
      refine lv_iadd hx hb dX1_add_45 ?_
      refine lv_topi (fun x5 ex5 => ?_)
      replace h := h x5 ex5
      refine va_put (D := (dC, dI)) (ci := 0) (v := .int x5) (ty := .int) (C := RX1) (T := TX1) (N := 3) hx hb hts iX1_add_X1 tyX1 tyX1_ok nmX1 hown hK hP hD hS 0 rfl rfl 2 (by decide) (hts (.fieldLink RX1 22 "TilingBeats$Ear" "count" "I") (by decide +kernel)) (fun _ h9 => h9) rfl (by decide +kernel) rfl rfl (Nat.le_of_ble_eq_true rfl) dX1_add_46 (fun H locs hP hD hS => ?_)
      have hP : va_P (dC, dI) vwCl [(q0, .inr (0, [.ref q_heard, .ref q_struck, .int x5])), (q_heard, .inl (cI, 8, .inl g3)), (q_struck, .inl (cZ, 8, .inl g4))] H := hP
      have hD : va_D A [(q0, .inr (0, [.ref q_heard, .ref q_struck, .int x5])), (q_heard, .inl (cI, 8, .inl g3)), (q_struck, .inl (cZ, 8, .inl g4))] := hD
      refine lv_aload_n hx hb dX1_add_49 rfl (lv_at hl 0 rfl) ?_
      refine va_get (D := (dC, dI)) (ci := 0) (v := .int x5) (C := RX1) (T := TX1) (N := 3) hx hb hts iX1_add_X1 hown hK hP 0 rfl rfl 2 (by decide) (hts (.fieldLink RX1 22 "TilingBeats$Ear" "count" "I") (by decide +kernel)) (fun _ h9 => h9) rfl dX1_add_50 ?_
      exact W.iret (v := x5) hx hb hr (fun t ht hW => ⟨⟨_, (x5, g3, g4), rfl, h, by rw [ht]; exact hP, hD⟩, hS.F ht⟩) hS.2.2 dX1_add_53
    · replace h := h.2 c2
      exact w16 v_count f_heard f_struck h s.heap [] ls hP hD hS (lv_sub hl [] rfl)

def wp_X1_fitting_j79 (v_count : Int32) (f_heard : (Nat → Int32)) (f_struck : (Nat → Int32)) (Q : Int32 → Prop) (l3 : Int32) : Prop := Q l3
def wp_X1_fitting_j71 (v_count : Int32) (f_heard : (Nat → Int32)) (f_struck : (Nat → Int32)) (L8 : Int32 → Int32 → Int32 → Int32 → Prop) (Q : Int32 → Prop) (l1 : Int32) (l2 : Int32) (l4 : Int32) (s0 : Int32) (s1 : Int32) : Prop := ∀ x1 : Int32, x1 = (s0 &&& s1) → ∀ x2 : Int32, x2 = l4 + 1 → L8 l1 l2 x1 x2
def wp_X1_fitting_h8 (v_count : Int32) (f_heard : (Nat → Int32)) (f_struck : (Nat → Int32)) (Q : Int32 → Prop) : Nat → Int32 → Int32 → Int32 → Int32 → Prop
  | 0, _, _, _, _ => False
  | z8 + 1, l1, l2, l3, l4 => (v_count ≤ l4 → (wp_X1_fitting_j79 v_count f_heard f_struck Q l3)) ∧ (¬ v_count ≤ l4 → ((8 ≤ l4 → (wp_X1_fitting_j79 v_count f_heard f_struck Q l3)) ∧ (¬ 8 ≤ l4 → (vp_in l4 8 ∧ ((f_heard (l4 : Int32).toNatClampNeg) < l1 → (vp_in l4 8 ∧ wp_X6_turnsThatStrike l1 l2 (f_heard (l4 : Int32).toNatClampNeg) fun (r6 : Int32) => vp_in l4 8 ∧ ((f_struck (l4 : Int32).toNatClampNeg) = 0 → (wp_X1_fitting_j71 v_count f_heard f_struck (wp_X1_fitting_h8 v_count f_heard f_struck Q z8) Q l1 l2 l4 l3 (r6 ^^^ (-1)))) ∧ (¬ (f_struck (l4 : Int32).toNatClampNeg) = 0 → (wp_X1_fitting_j71 v_count f_heard f_struck (wp_X1_fitting_h8 v_count f_heard f_struck Q z8) Q l1 l2 l4 l3 r6)))) ∧ (¬ (f_heard (l4 : Int32).toNatClampNeg) < l1 → (Q 0))))))
def wp_X1_fitting (v_count : Int32) (f_heard : (Nat → Int32)) (f_struck : (Nat → Int32)) (p1 : Int32) (p2 : Int32) (Q : Int32 → Prop) : Prop := wp_X6_full p1 fun (r8 : Int32) => ∃ k9 : Nat, wp_X1_fitting_h8 v_count f_heard f_struck Q k9 p1 p2 r8 0
abbrev rmX1_fitting : Room := { frames := 4, cells := 0, slots := 0, locals := 89 }
set_option maxRecDepth 20000 in
theorem iX1_fitting_X1 : ∀ w ∈ wsX10, w ∈ wsX1_fitting := by decide +kernel
set_option maxHeartbeats 4000000 in
set_option maxRecDepth 100000 in
theorem c_X1_fitting (l : Launch) (dC : Nat → ClassId) (dI : Nat → Nat → Nat) (cI cZ : ClassId) (q0 q_heard q_struck : Nat) (v_count : Int32) (f_heard : (Nat → Int32)) (f_struck : (Nat → Int32)) (p1 : Int32) (p2 : Int32) (Q : Int32 → Prop) (h : wp_X1_fitting v_count f_heard f_struck p1 p2 Q) : Met l yX1_fitting wsX1_fitting (rmX1_fitting) (va_Pc [.ref q0, .int p1, .int p2] (fun U => va_P (dC, dI) vwCl [(q0, .inr (0, [.ref q_heard, .ref q_struck, .int v_count])), (q_heard, .inl (cI, 8, .inl f_heard)), (q_struck, .inl (cZ, 8, .inl f_struck))] U.heap ∧ va_K (dC, dI) vwCl (tyZ cI cZ) U ∧ nW U)) (vp_Si Q) 0 0 (fun _ => False) := by
  unfold wp_X1_fitting at h
  refine Met.ofW (cc := cX1_fitting) (maxL := 6) (ret := (some .int)) (by decide) rfl ?_
  intro p e s m args below meth c s₁ B hml hv
  obtain ⟨rfl, hP, hK, hN⟩ := hv
  have hx := B.exec
  have hb := B.bytes
  have hr := B.returns
  have hts := atoms_spec (ws := wsX1_fitting) B.pre
  have hown : s.vm.findClass RX1 = some m.cls := findClass_of_methodNamed B.named
  have hlocks := B.notSynchronized
  have w79 : ∀ (l3 : Int32), wp_X1_fitting_j79 v_count f_heard f_struck Q l3 → ∀ (ls : Array Slot), lv_has ls 6 [(3, .int l3)] → W p l e (headSpec wsX1_fitting (rmX1_fitting)).room s m ([.ref q0, .int p1, .int p2] : List Value).toArray below meth c s.heap [] 0 0 (MQ below (vp_Si Q) ([.ref q0, .int p1, .int p2] : List Value).toArray s 0 0 (fun _ => False)) (F0 m 79 ls []) := by
    intro l3 h ls hl
    unfold wp_X1_fitting_j79 at h
    refine lv_iload_n hx hb dX1_fitting_79 rfl (lv_at hl 0 rfl) ?_
    exact W.iret (v := l3) hx hb hr (fun t ht hW => ⟨_, rfl, h, ht⟩) (fun _ h => by cases h) dX1_fitting_80
  have w8 : ∀ (z8 : Nat) (l1 : Int32) (l2 : Int32) (l3 : Int32) (l4 : Int32), wp_X1_fitting_h8 v_count f_heard f_struck Q z8 l1 l2 l3 l4 → ∀ (ls : Array Slot), lv_has ls 6 [(0, .ref q0), (1, .int l1), (2, .int l2), (3, .int l3), (4, .int l4)] → W p l e (headSpec wsX1_fitting (rmX1_fitting)).room s m ([.ref q0, .int p1, .int p2] : List Value).toArray below meth c s.heap [] 0 0 (MQ below (vp_Si Q) ([.ref q0, .int p1, .int p2] : List Value).toArray s 0 0 (fun _ => False)) (F0 m 8 ls []) := by
    intro z8
    induction z8 with
    | zero => intro l1 l2 l3 l4 h; unfold wp_X1_fitting_h8 at h; exact h.elim
    | succ z8 k8 =>
      have w71 : ∀ (l1 : Int32) (l2 : Int32) (l4 : Int32) (s0 : Int32) (s1 : Int32), wp_X1_fitting_j71 v_count f_heard f_struck (wp_X1_fitting_h8 v_count f_heard f_struck Q z8) Q l1 l2 l4 s0 s1 → ∀ (ls : Array Slot), lv_has ls 6 [(0, .ref q0), (1, .int l1), (2, .int l2), (4, .int l4)] → W p l e (headSpec wsX1_fitting (rmX1_fitting)).room s m ([.ref q0, .int p1, .int p2] : List Value).toArray below meth c s.heap [] 0 0 (MQ below (vp_Si Q) ([.ref q0, .int p1, .int p2] : List Value).toArray s 0 0 (fun _ => False)) (F0 m 71 ls [.int s1, .int s0]) := by
        intro l1 l2 l4 s0 s1 h ls hl
        unfold wp_X1_fitting_j71 at h
        refine lv_iand hx hb dX1_fitting_71 ?_
        refine lv_topi (fun x1 ex1 => ?_)
        replace h := h x1 ex1
        refine lv_istore_n (lv' := [(3, .int x1), (0, .ref q0), (1, .int l1), (2, .int l2), (4, .int l4)]) hx hb dX1_fitting_72 rfl hl (by decide) rfl (fun ls hl => ?_)
        obtain ⟨x2, ex2⟩ : ∃ y : Int32, y = l4 + 1 := ⟨_, rfl⟩
        replace h := h x2 ex2
        refine lv_iinc (v := x2) (lv' := [(4, .int x2), (3, .int x1), (0, .ref q0), (1, .int l1), (2, .int l2)]) hx hb dX1_fitting_73 hl (k := 4) rfl (by rw [ex2]; rfl) (by decide) rfl (fun ls hl => ?_)
        refine lv_goto (tgt := 8) hx hb dX1_fitting_76 (by decide) ?_
        exact k8 l1 l2 x1 x2 h ls (lv_sub hl [2, 3, 4, 1, 0] rfl)
      intro l1 l2 l3 l4 h ls hl
      unfold wp_X1_fitting_h8 at h
      refine lv_iload hx hb dX1_fitting_8 (lv_at hl 4 rfl) ?_
      refine lv_aload_n hx hb dX1_fitting_10 rfl (lv_at hl 0 rfl) ?_
      refine va_get (D := (dC, dI)) (ci := 0) (v := .int v_count) (C := RX1) (T := TX1) (N := 3) hx hb hts iX1_fitting_X1 hown hK hP 0 rfl rfl 2 (by decide) (hts (.fieldLink RX1 22 "TilingBeats$Ear" "count" "I") (by decide +kernel)) (fun _ h9 => h9) rfl dX1_fitting_11 ?_
      refine lv_icmp_ge (tgt := 79) hx hb dX1_fitting_14 (by decide) (fun c3 => ?_) (fun c3 => ?_)
      · replace h := h.1 c3
        exact w79 l3 h ls (lv_sub hl [3] rfl)
      · replace h := h.2 c3
        refine lv_iload hx hb dX1_fitting_17 (lv_at hl 4 rfl) ?_
        refine lv_bipush (v := 8) hx hb dX1_fitting_19 (by decide) ?_
        refine lv_icmp_ge (tgt := 79) hx hb dX1_fitting_21 (by decide) (fun c4 => ?_) (fun c4 => ?_)
        · replace h := h.1 c4
          exact w79 l3 h ls (lv_sub hl [3] rfl)
        · replace h := h.2 c4
          refine lv_aload_n hx hb dX1_fitting_24 rfl (lv_at hl 0 rfl) ?_
          refine va_get (D := (dC, dI)) (ci := 0) (v := .ref q_heard) (C := RX1) (T := TX1) (N := 3) hx hb hts iX1_fitting_X1 hown hK hP 0 rfl rfl 0 (by decide) (hts (.fieldLink RX1 9 "TilingBeats$Ear" "heard" "[I") (by decide +kernel)) (fun _ h9 => h9) rfl dX1_fitting_25 ?_
          refine lv_iload hx hb dX1_fitting_28 (lv_at hl 4 rfl) ?_
          refine va_iald (D := (dC, dI)) hx hb hK hP 1 0 rfl rfl h.1 dX1_fitting_30 ?_
          replace h := h.2
          refine lv_iload_n hx hb dX1_fitting_31 rfl (lv_at hl 1 rfl) ?_
          refine lv_icmp_lt (tgt := 37) hx hb dX1_fitting_32 (by decide) (fun c5 => ?_) (fun c5 => ?_)
          · replace h := h.1 c5
            refine lv_iload_n hx hb dX1_fitting_37 rfl (lv_at hl 1 rfl) ?_
            refine lv_iload_n hx hb dX1_fitting_38 rfl (lv_at hl 2 rfl) ?_
            refine lv_aload_n hx hb dX1_fitting_39 rfl (lv_at hl 0 rfl) ?_
            refine va_get (D := (dC, dI)) (ci := 0) (v := .ref q_heard) (C := RX1) (T := TX1) (N := 3) hx hb hts iX1_fitting_X1 hown hK hP 0 rfl rfl 0 (by decide) (hts (.fieldLink RX1 9 "TilingBeats$Ear" "heard" "[I") (by decide +kernel)) (fun _ h9 => h9) rfl dX1_fitting_40 ?_
            refine lv_iload hx hb dX1_fitting_43 (lv_at hl 4 rfl) ?_
            refine va_iald (D := (dC, dI)) hx hb hK hP 1 0 rfl rfl h.1 dX1_fitting_45 ?_
            replace h := h.2
            refine vs_calli (va_runSN (As := [.int l1, .int l2, .int (f_heard (l4 : Int32).toNatClampNeg)]) (rest := []) ⟨hx, hb, hml, hown, hts⟩ (c_X6_turnsThatStrike l l1 l2 (f_heard (l4 : Int32).toNatClampNeg) _ h) ⟨va_cnB 3 hts gX1_fitting_X6_turnsThatStrike_n33 rfl rfl rfl (nw_63 hN) (hts (.initialized RX6) (by decide +kernel)) (by decide +kernel) ⟨Nat.le_of_ble_eq_true rfl, Nat.le_of_ble_eq_true rfl⟩, hts (.static yX6_turnsThatStrike) (by decide +kernel), trivial⟩ ⟨fun a U g mk q => ⟨q.1, nW_call q.2⟩, fun U hU hW => ⟨rfl, nW_warm hW hN⟩⟩ rfl rfl hl.1 rfl (lv_room (Nat.le_of_ble_eq_true rfl)) dX1_fitting_46 ⟨Nat.le_of_ble_eq_true rfl, Nat.le_of_ble_eq_true rfl⟩) (fun r6 h => ?_)
            refine lv_istore (lv' := [(5, .int r6), (0, .ref q0), (1, .int l1), (2, .int l2), (3, .int l3), (4, .int l4)]) hx hb dX1_fitting_49 hl (by decide) rfl (fun ls hl => ?_)
            refine lv_iload_n hx hb dX1_fitting_51 rfl (lv_at hl 4 rfl) ?_
            refine lv_aload_n hx hb dX1_fitting_52 rfl (lv_at hl 1 rfl) ?_
            refine va_get (D := (dC, dI)) (ci := 0) (v := .ref q_struck) (C := RX1) (T := TX1) (N := 3) hx hb hts iX1_fitting_X1 hown hK hP 0 rfl rfl 1 (by decide) (hts (.fieldLink RX1 15 "TilingBeats$Ear" "struck" "[Z") (by decide +kernel)) (fun _ h9 => h9) rfl dX1_fitting_53 ?_
            refine lv_iload hx hb dX1_fitting_56 (lv_at hl 5 rfl) ?_
            refine va_zald (D := (dC, dI)) hx hb hK hP 2 1 rfl rfl h.1 dX1_fitting_58 ?_
            replace h := h.2
            refine lv_if_eq (tgt := 67) hx hb dX1_fitting_59 (by decide) (fun c7 => ?_) (fun c7 => ?_)
            · replace h := h.1 c7
              refine lv_iload hx hb dX1_fitting_67 (lv_at hl 0 rfl) ?_
              refine lv_iconst (v := (-1)) hx hb dX1_fitting_69 (by decide) ?_
              refine lv_ixor hx hb dX1_fitting_70 ?_
              exact w71 l1 l2 l4 l3 (r6 ^^^ (-1)) h ls (lv_sub hl [1, 2, 3, 5] rfl)
            · replace h := h.2 c7
              refine lv_iload hx hb dX1_fitting_62 (lv_at hl 0 rfl) ?_
              refine lv_goto (tgt := 71) hx hb dX1_fitting_64 (by decide) ?_
              exact w71 l1 l2 l4 l3 r6 h ls (lv_sub hl [1, 2, 3, 5] rfl)
          · replace h := h.2 c5
            refine lv_iconst (v := 0) hx hb dX1_fitting_35 (by decide) ?_
            exact W.iret (v := 0) hx hb hr (fun t ht hW => ⟨_, rfl, h, ht⟩) (fun _ h => by cases h) dX1_fitting_36
  have hl := lv_entry ([.ref q0, .int p1, .int p2]) (n := 6) (Nat.le_of_ble_eq_true rfl)
  rw [lg_entry_eq]
  generalize (lg_sl ([.ref q0, .int p1, .int p2]) ++ List.replicate (6 - (lg_sl ([.ref q0, .int p1, .int p2])).length) Slot.unset).toArray = ls at hl ⊢
  have hl : lv_has ls 6 [(0, .ref q0), (1, .int p1), (2, .int p2)] := hl
  refine lv_iload_n hx hb dX1_fitting_0 rfl (lv_at hl 1 rfl) ?_
  refine vs_calli (va_runSN (As := [.int p1]) (rest := []) ⟨hx, hb, hml, hown, hts⟩ (c_X6_full l p1 _ h) ⟨va_cnB 1 hts gX1_fitting_X6_full_n27 rfl rfl rfl (nw_62 hN) (hts (.initialized RX6) (by decide +kernel)) (by decide +kernel) ⟨Nat.le_of_ble_eq_true rfl, Nat.le_of_ble_eq_true rfl⟩, hts (.static yX6_full) (by decide +kernel), trivial⟩ ⟨fun a U g mk q => ⟨q.1, nW_call q.2⟩, fun U hU hW => ⟨rfl, nW_warm hW hN⟩⟩ rfl rfl hl.1 rfl (lv_room (Nat.le_of_ble_eq_true rfl)) dX1_fitting_1 ⟨Nat.le_of_ble_eq_true rfl, Nat.le_of_ble_eq_true rfl⟩) (fun r8 h => ?_)
  refine lv_istore_n (lv' := [(3, .int r8), (0, .ref q0), (1, .int p1), (2, .int p2)]) hx hb dX1_fitting_4 rfl hl (by decide) rfl (fun ls hl => ?_)
  refine lv_iconst (v := 0) hx hb dX1_fitting_5 (by decide) ?_
  refine lv_istore (lv' := [(4, .int 0), (3, .int r8), (0, .ref q0), (1, .int p1), (2, .int p2)]) hx hb dX1_fitting_6 hl (by decide) rfl (fun ls hl => ?_)
  obtain ⟨k9, h⟩ := h
  exact w8 k9 p1 p2 r8 0 h ls (lv_sub hl [2, 3, 4, 1, 0] rfl)

def wp_X8_listStruck_j62 (v_beats : Int32) (v_rhythm : Int32) (Q : Int32 → (Nat → Int32) → Prop) (v_struckCount : Int32) (f_struck : (Nat → Int32)) : Prop := Q v_struckCount f_struck
def wp_X8_listStruck_j56 (v_beats : Int32) (v_rhythm : Int32) (L7 : Int32 → Int32 → (Nat → Int32) → Prop) (Q : Int32 → (Nat → Int32) → Prop) (l1 : Int32) (v_struckCount : Int32) (f_struck : (Nat → Int32)) : Prop := ∀ x1 : Int32, x1 = l1 + 1 → L7 x1 v_struckCount f_struck
def wp_X8_listStruck_h7 (v_beats : Int32) (v_rhythm : Int32) (Q : Int32 → (Nat → Int32) → Prop) : Nat → Int32 → Int32 → (Nat → Int32) → Prop
  | 0, _, _, _ => False
  | z7 + 1, l1, v_struckCount, f_struck => (v_beats ≤ l1 → (wp_X8_listStruck_j62 v_beats v_rhythm Q v_struckCount f_struck)) ∧ (¬ v_beats ≤ l1 → (((Int32.ofNat 24) ≤ l1 → (wp_X8_listStruck_j62 v_beats v_rhythm Q v_struckCount f_struck)) ∧ (¬ (Int32.ofNat 24) ≤ l1 → (wp_X6_bit v_rhythm l1 fun (r4 : Int32) => (¬ r4 = 1 → (wp_X8_listStruck_j56 v_beats v_rhythm (wp_X8_listStruck_h7 v_beats v_rhythm Q z7) Q l1 v_struckCount f_struck)) ∧ (r4 = 1 → (vp_in v_struckCount 24 ∧ ∀ g6 : Nat → Int32, g6 = upd f_struck (v_struckCount : Int32).toNatClampNeg l1 → ∀ x7 : Int32, x7 = (v_struckCount + 1) → wp_X8_listStruck_j56 v_beats v_rhythm (wp_X8_listStruck_h7 v_beats v_rhythm Q z7) Q l1 x7 g6))))))
def wp_X8_listStruck (v_struckCount : Int32) (v_beats : Int32) (v_rhythm : Int32) (f_struck : (Nat → Int32)) (Q : Int32 → (Nat → Int32) → Prop) : Prop := ∃ k8 : Nat, wp_X8_listStruck_h7 v_beats v_rhythm Q k8 0 0 f_struck
abbrev rmX8_listStruck : Room := { frames := 1, cells := 0, slots := 0, locals := 21 }
set_option maxRecDepth 20000 in
theorem iX8_listStruck_X8 : ∀ w ∈ wsX80, w ∈ wsX8_listStruck := by decide +kernel
set_option maxHeartbeats 4000000 in
set_option maxRecDepth 100000 in
theorem c_X8_listStruck (l : Launch) (dC : Nat → ClassId) (dI : Nat → Nat → Nat) (cI cZ : ClassId) (q0 q_sets q_struck : Nat) (sz : Nat) (v_struckCount : Int32) (v_count : Int32) (v_beats : Int32) (v_rhythm : Int32) (f_struck : (Nat → Int32))  (Q : Int32 → (Nat → Int32) → Prop) (h : wp_X8_listStruck v_struckCount v_beats v_rhythm f_struck Q) : Met l yX8_listStruck wsX8_listStruck (rmX8_listStruck) (va_Pc [.ref q0] (fun U => U.heap.size = sz ∧ va_P (dC, dI) vwCl [(q0, .inr (5, [.ref q_sets, .ref q_struck, .int v_struckCount, .int v_count, .int v_beats, .int v_rhythm])), (q_struck, .inl (cI, 24, .inl f_struck))] U.heap ∧ va_K (dC, dI) vwCl (tyZ cI cZ) U ∧ va_D (fun _ => True) [(q0, .inr (5, [.ref q_sets, .ref q_struck, .int v_struckCount, .int v_count, .int v_beats, .int v_rhythm])), (q_struck, .inl (cI, 24, .inl f_struck))] ∧ nW U)) (va_Qv (fun (u : Int32 × (Nat → Int32)) => Q u.1 u.2) (fun (u : Int32 × (Nat → Int32)) (t : State) => va_P (dC, dI) vwCl [(q0, .inr (5, [.ref q_sets, .ref q_struck, .int u.1, .int v_count, .int v_beats, .int v_rhythm])), (q_struck, .inl (cI, 24, .inl u.2))] t.heap ∧ va_D (va_A [(q0, .inr (5, [.ref q_sets, .ref q_struck, .int v_struckCount, .int v_count, .int v_beats, .int v_rhythm])), (q_struck, .inl (cI, 24, .inl f_struck))] sz) [(q0, .inr (5, [.ref q_sets, .ref q_struck, .int u.1, .int v_count, .int v_beats, .int v_rhythm])), (q_struck, .inl (cI, 24, .inl u.2))]) (va_A [(q0, .inr (5, [.ref q_sets, .ref q_struck, .int v_struckCount, .int v_count, .int v_beats, .int v_rhythm])), (q_struck, .inl (cI, 24, .inl f_struck))] sz)) 0 0 (va_A [(q0, .inr (5, [.ref q_sets, .ref q_struck, .int v_struckCount, .int v_count, .int v_beats, .int v_rhythm])), (q_struck, .inl (cI, 24, .inl f_struck))] sz) := by
  unfold wp_X8_listStruck at h
  refine Met.ofW (cc := cX8_listStruck) (maxL := 2) (ret := none) (by decide) rfl ?_
  intro p e s m args below meth c s₁ B hml hv
  obtain ⟨rfl, hsz, hP, hK, hD0, hN⟩ := hv
  have hx := B.exec
  have hb := B.bytes
  have hr := B.returns
  have hts := atoms_spec (ws := wsX8_listStruck) B.pre
  have hown : s.vm.findClass RX8 = some m.cls := findClass_of_methodNamed B.named
  have hlocks := B.notSynchronized
  subst hsz
  have hD := hD0.self (sz := s.heap.size)
  generalize hAe : va_A [(q0, .inr (5, [.ref q_sets, .ref q_struck, .int v_struckCount, .int v_count, .int v_beats, .int v_rhythm])), (q_struck, .inl (cI, 24, .inl f_struck))] s.heap.size = A at hD ⊢
  have hA : ∀ q : Nat, s.heap.size ≤ q → A q := fun q h => by rw [← hAe]; exact Or.inr h
  clear hAe
  have hS : va_S A s.heap s.heap [] := va_S.rf
  have w62 : ∀ (v_struckCount : Int32) (f_struck : (Nat → Int32)), wp_X8_listStruck_j62 v_beats v_rhythm Q v_struckCount f_struck → ∀ (H : Heap) (locs : List Loc) (ls : Array Slot), va_P (dC, dI) vwCl [(q0, .inr (5, [.ref q_sets, .ref q_struck, .int v_struckCount, .int v_count, .int v_beats, .int v_rhythm])), (q_struck, .inl (cI, 24, .inl f_struck))] H → va_D A [(q0, .inr (5, [.ref q_sets, .ref q_struck, .int v_struckCount, .int v_count, .int v_beats, .int v_rhythm])), (q_struck, .inl (cI, 24, .inl f_struck))] → va_S A s.heap H locs → lv_has ls 2 [] → W p l e (headSpec wsX8_listStruck (rmX8_listStruck)).room s m ([.ref q0] : List Value).toArray below meth c H locs 0 0 (MQ below (va_Qv (fun (u : Int32 × (Nat → Int32)) => Q u.1 u.2) (fun (u : Int32 × (Nat → Int32)) (t : State) => va_P (dC, dI) vwCl [(q0, .inr (5, [.ref q_sets, .ref q_struck, .int u.1, .int v_count, .int v_beats, .int v_rhythm])), (q_struck, .inl (cI, 24, .inl u.2))] t.heap ∧ va_D A [(q0, .inr (5, [.ref q_sets, .ref q_struck, .int u.1, .int v_count, .int v_beats, .int v_rhythm])), (q_struck, .inl (cI, 24, .inl u.2))]) A) ([.ref q0] : List Value).toArray s 0 0 A) (F0 m 62 ls []) := by
    intro v_struckCount f_struck h H locs ls hP hD hS hl
    unfold wp_X8_listStruck_j62 at h
    exact W.vret hx hb hr (fun t ht hW => ⟨⟨(v_struckCount, f_struck), rfl, h, by rw [ht]; exact hP, hD⟩, hS.F ht⟩) hS.2.2 dX8_listStruck_62
  have w7 : ∀ (z7 : Nat) (l1 : Int32) (v_struckCount : Int32) (f_struck : (Nat → Int32)), wp_X8_listStruck_h7 v_beats v_rhythm Q z7 l1 v_struckCount f_struck → ∀ (H : Heap) (locs : List Loc) (ls : Array Slot), va_P (dC, dI) vwCl [(q0, .inr (5, [.ref q_sets, .ref q_struck, .int v_struckCount, .int v_count, .int v_beats, .int v_rhythm])), (q_struck, .inl (cI, 24, .inl f_struck))] H → va_D A [(q0, .inr (5, [.ref q_sets, .ref q_struck, .int v_struckCount, .int v_count, .int v_beats, .int v_rhythm])), (q_struck, .inl (cI, 24, .inl f_struck))] → va_S A s.heap H locs → lv_has ls 2 [(0, .ref q0), (1, .int l1)] → W p l e (headSpec wsX8_listStruck (rmX8_listStruck)).room s m ([.ref q0] : List Value).toArray below meth c H locs 0 0 (MQ below (va_Qv (fun (u : Int32 × (Nat → Int32)) => Q u.1 u.2) (fun (u : Int32 × (Nat → Int32)) (t : State) => va_P (dC, dI) vwCl [(q0, .inr (5, [.ref q_sets, .ref q_struck, .int u.1, .int v_count, .int v_beats, .int v_rhythm])), (q_struck, .inl (cI, 24, .inl u.2))] t.heap ∧ va_D A [(q0, .inr (5, [.ref q_sets, .ref q_struck, .int u.1, .int v_count, .int v_beats, .int v_rhythm])), (q_struck, .inl (cI, 24, .inl u.2))]) A) ([.ref q0] : List Value).toArray s 0 0 A) (F0 m 7 ls []) := by
    intro z7
    induction z7 with
    | zero => intro l1 v_struckCount f_struck h; unfold wp_X8_listStruck_h7 at h; exact h.elim
    | succ z7 k7 =>
      have w56 : ∀ (l1 : Int32) (v_struckCount : Int32) (f_struck : (Nat → Int32)), wp_X8_listStruck_j56 v_beats v_rhythm (wp_X8_listStruck_h7 v_beats v_rhythm Q z7) Q l1 v_struckCount f_struck → ∀ (H : Heap) (locs : List Loc) (ls : Array Slot), va_P (dC, dI) vwCl [(q0, .inr (5, [.ref q_sets, .ref q_struck, .int v_struckCount, .int v_count, .int v_beats, .int v_rhythm])), (q_struck, .inl (cI, 24, .inl f_struck))] H → va_D A [(q0, .inr (5, [.ref q_sets, .ref q_struck, .int v_struckCount, .int v_count, .int v_beats, .int v_rhythm])), (q_struck, .inl (cI, 24, .inl f_struck))] → va_S A s.heap H locs → lv_has ls 2 [(0, .ref q0), (1, .int l1)] → W p l e (headSpec wsX8_listStruck (rmX8_listStruck)).room s m ([.ref q0] : List Value).toArray below meth c H locs 0 0 (MQ below (va_Qv (fun (u : Int32 × (Nat → Int32)) => Q u.1 u.2) (fun (u : Int32 × (Nat → Int32)) (t : State) => va_P (dC, dI) vwCl [(q0, .inr (5, [.ref q_sets, .ref q_struck, .int u.1, .int v_count, .int v_beats, .int v_rhythm])), (q_struck, .inl (cI, 24, .inl u.2))] t.heap ∧ va_D A [(q0, .inr (5, [.ref q_sets, .ref q_struck, .int u.1, .int v_count, .int v_beats, .int v_rhythm])), (q_struck, .inl (cI, 24, .inl u.2))]) A) ([.ref q0] : List Value).toArray s 0 0 A) (F0 m 56 ls []) := by
        intro l1 v_struckCount f_struck h H locs ls hP hD hS hl
        unfold wp_X8_listStruck_j56 at h
        obtain ⟨x1, ex1⟩ : ∃ y : Int32, y = l1 + 1 := ⟨_, rfl⟩
        replace h := h x1 ex1
        refine lv_iinc (v := x1) (lv' := [(1, .int x1), (0, .ref q0)]) hx hb dX8_listStruck_56 hl (k := 1) rfl (by rw [ex1]; rfl) (by decide) rfl (fun ls hl => ?_)
        refine lv_goto (tgt := 7) hx hb dX8_listStruck_59 (by decide) ?_
        exact k7 x1 v_struckCount f_struck h H locs ls hP hD hS (lv_sub hl [1, 0] rfl)
      intro l1 v_struckCount f_struck h H locs ls hP hD hS hl
      unfold wp_X8_listStruck_h7 at h
      refine lv_iload_n hx hb dX8_listStruck_7 rfl (lv_at hl 1 rfl) ?_
      refine lv_aload_n hx hb dX8_listStruck_8 rfl (lv_at hl 0 rfl) ?_
      refine va_get (D := (dC, dI)) (ci := 5) (v := .int v_beats) (C := RX8) (T := TX8) (N := 6) hx hb hts iX8_listStruck_X8 hown hK hP 0 rfl rfl 4 (by decide) (hts (.fieldLink RX8 31 "TilingBeats$Tilings" "beats" "I") (by decide +kernel)) (fun _ h9 => h9) rfl dX8_listStruck_9 ?_
      refine lv_icmp_ge (tgt := 62) hx hb dX8_listStruck_12 (by decide) (fun c2 => ?_) (fun c2 => ?_)
      · replace h := h.1 c2
        exact w62 v_struckCount f_struck h H locs ls hP hD hS (lv_sub hl [] rfl)
      · replace h := h.2 c2
        refine lv_iload_n hx hb dX8_listStruck_15 rfl (lv_at hl 1 rfl) ?_
        refine lv_aload_n hx hb dX8_listStruck_16 rfl (lv_at hl 0 rfl) ?_
        refine va_get (D := (dC, dI)) (ci := 5) (v := .ref q_struck) (C := RX8) (T := TX8) (N := 6) hx hb hts iX8_listStruck_X8 hown hK hP 0 rfl rfl 1 (by decide) (hts (.fieldLink RX8 21 "TilingBeats$Tilings" "struck" "[I") (by decide +kernel)) (fun _ h9 => h9) rfl dX8_listStruck_17 ?_
        refine va_alen (D := (dC, dI)) (v := (Int32.ofNat 24)) hx hb hK hP 1 0 rfl rfl rfl dX8_listStruck_20 ?_
        refine lv_icmp_ge (tgt := 62) hx hb dX8_listStruck_21 (by decide) (fun c3 => ?_) (fun c3 => ?_)
        · replace h := h.1 c3
          exact w62 v_struckCount f_struck h H locs ls hP hD hS (lv_sub hl [] rfl)
        · replace h := h.2 c3
          refine lv_aload_n hx hb dX8_listStruck_24 rfl (lv_at hl 0 rfl) ?_
          refine va_get (D := (dC, dI)) (ci := 5) (v := .int v_rhythm) (C := RX8) (T := TX8) (N := 6) hx hb hts iX8_listStruck_X8 hown hK hP 0 rfl rfl 5 (by decide) (hts (.fieldLink RX8 34 "TilingBeats$Tilings" "rhythm" "I") (by decide +kernel)) (fun _ h9 => h9) rfl dX8_listStruck_25 ?_
          refine lv_iload_n hx hb dX8_listStruck_28 rfl (lv_at hl 1 rfl) ?_
          refine vs_calli (va_runSN (As := [.int v_rhythm, .int l1]) (rest := []) ⟨hx, hb, hml, hown, hts⟩ (c_X6_bit l v_rhythm l1 _ h) ⟨va_cnB 2 hts gX8_listStruck_X6_bit_n58 rfl rfl rfl (nw_25 hN) (hts (.initialized RX6) (by decide +kernel)) (by decide +kernel) ⟨Nat.le_of_ble_eq_true rfl, Nat.le_of_ble_eq_true rfl⟩, hts (.static yX6_bit) (by decide +kernel), trivial⟩ ⟨fun a U g mk q => ⟨q.1, nW_call q.2⟩, fun U hU hW => ⟨rfl, nW_warm hW hN⟩⟩ rfl rfl hl.1 rfl (lv_room (Nat.le_of_ble_eq_true rfl)) dX8_listStruck_29 ⟨Nat.le_of_ble_eq_true rfl, Nat.le_of_ble_eq_true rfl⟩) (fun r4 h => ?_)
          refine lv_iconst (v := 1) hx hb dX8_listStruck_32 (by decide) ?_
          refine lv_icmp_ne (tgt := 56) hx hb dX8_listStruck_33 (by decide) (fun c5 => ?_) (fun c5 => ?_)
          · replace h := h.1 c5
            exact w56 l1 v_struckCount f_struck h H locs ls hP hD hS (lv_sub hl [0, 1] rfl)
          · replace h := h.2 c5
            refine lv_aload_n hx hb dX8_listStruck_36 rfl (lv_at hl 0 rfl) ?_
            refine va_get (D := (dC, dI)) (ci := 5) (v := .ref q_struck) (C := RX8) (T := TX8) (N := 6) hx hb hts iX8_listStruck_X8 hown hK hP 0 rfl rfl 1 (by decide) (hts (.fieldLink RX8 21 "TilingBeats$Tilings" "struck" "[I") (by decide +kernel)) (fun _ h9 => h9) rfl dX8_listStruck_37 ?_
            refine lv_aload_n hx hb dX8_listStruck_40 rfl (lv_at hl 0 rfl) ?_
            refine va_get (D := (dC, dI)) (ci := 5) (v := .int v_struckCount) (C := RX8) (T := TX8) (N := 6) hx hb hts iX8_listStruck_X8 hown hK hP 0 rfl rfl 2 (by decide) (hts (.fieldLink RX8 24 "TilingBeats$Tilings" "struckCount" "I") (by decide +kernel)) (fun _ h9 => h9) rfl dX8_listStruck_41 ?_
            refine lv_iload_n hx hb dX8_listStruck_44 rfl (lv_at hl 1 rfl) ?_
            refine va_iast (D := (dC, dI)) hx hb hK hP hD hS 1 0 rfl rfl h.1 dX8_listStruck_45 (fun H locs hP hD hS => ?_)
            obtain ⟨g6, eg6⟩ : ∃ y : Nat → Int32, y = upd f_struck (v_struckCount : Int32).toNatClampNeg l1 := ⟨_, rfl⟩
            replace h := h.2 g6 eg6
            rw [← eg6] at hP hD
            have hP : va_P (dC, dI) vwCl [(q0, .inr (5, [.ref q_sets, .ref q_struck, .int v_struckCount, .int v_count, .int v_beats, .int v_rhythm])), (q_struck, .inl (cI, 24, .inl g6))] H := hP
            have hD : va_D A [(q0, .inr (5, [.ref q_sets, .ref q_struck, .int v_struckCount, .int v_count, .int v_beats, .int v_rhythm])), (q_struck, .inl (cI, 24, .inl g6))] := hD
            refine lv_aload_n hx hb dX8_listStruck_46 rfl (lv_at hl 0 rfl) ?_
            refine lv_dup hx hb dX8_listStruck_47 rfl ?_
            refine va_get (D := (dC, dI)) (ci := 5) (v := .int v_struckCount) (C := RX8) (T := TX8) (N := 6) hx hb hts iX8_listStruck_X8 hown hK hP 0 rfl rfl 2 (by decide) (hts (.fieldLink RX8 24 "TilingBeats$Tilings" "struckCount" "I") (by decide +kernel)) (fun _ h9 => h9) rfl dX8_listStruck_48 ?_
            refine lv_iconst (v := 1) hx hb dX8_listStruck_51 (by decide) ?_
            refine lv_iadd hx hb dX8_listStruck_52 ?_
            refine lv_topi (fun x7 ex7 => ?_)
            replace h := h x7 ex7
            refine va_put (D := (dC, dI)) (ci := 5) (v := .int x7) (ty := .int) (C := RX8) (T := TX8) (N := 6) hx hb hts iX8_listStruck_X8 tyX8 tyX8_ok nmX8 hown hK hP hD hS 0 rfl rfl 2 (by decide) (hts (.fieldLink RX8 24 "TilingBeats$Tilings" "struckCount" "I") (by decide +kernel)) (fun _ h9 => h9) rfl (by decide +kernel) rfl rfl (Nat.le_of_ble_eq_true rfl) dX8_listStruck_53 (fun H locs hP hD hS => ?_)
            have hP : va_P (dC, dI) vwCl [(q0, .inr (5, [.ref q_sets, .ref q_struck, .int x7, .int v_count, .int v_beats, .int v_rhythm])), (q_struck, .inl (cI, 24, .inl g6))] H := hP
            have hD : va_D A [(q0, .inr (5, [.ref q_sets, .ref q_struck, .int x7, .int v_count, .int v_beats, .int v_rhythm])), (q_struck, .inl (cI, 24, .inl g6))] := hD
            exact w56 l1 x7 g6 h H locs ls hP hD hS (lv_sub hl [0, 1] rfl)
  have hl := lv_entry ([.ref q0]) (n := 2) (Nat.le_of_ble_eq_true rfl)
  rw [lg_entry_eq]
  generalize (lg_sl ([.ref q0]) ++ List.replicate (2 - (lg_sl ([.ref q0])).length) Slot.unset).toArray = ls at hl ⊢
  have hl : lv_has ls 2 [(0, .ref q0)] := hl
  refine lv_aload_n hx hb dX8_listStruck_0 rfl (lv_at hl 0 rfl) ?_
  refine lv_iconst (v := 0) hx hb dX8_listStruck_1 (by decide) ?_
  refine va_put (D := (dC, dI)) (ci := 5) (v := .int 0) (ty := .int) (C := RX8) (T := TX8) (N := 6) hx hb hts iX8_listStruck_X8 tyX8 tyX8_ok nmX8 hown hK hP hD hS 0 rfl rfl 2 (by decide) (hts (.fieldLink RX8 24 "TilingBeats$Tilings" "struckCount" "I") (by decide +kernel)) (fun _ h9 => h9) rfl (by decide +kernel) rfl rfl (Nat.le_of_ble_eq_true rfl) dX8_listStruck_2 (fun H locs hP hD hS => ?_)
  have hP : va_P (dC, dI) vwCl [(q0, .inr (5, [.ref q_sets, .ref q_struck, .int 0, .int v_count, .int v_beats, .int v_rhythm])), (q_struck, .inl (cI, 24, .inl f_struck))] H := hP
  have hD : va_D A [(q0, .inr (5, [.ref q_sets, .ref q_struck, .int 0, .int v_count, .int v_beats, .int v_rhythm])), (q_struck, .inl (cI, 24, .inl f_struck))] := hD
  refine lv_iconst (v := 0) hx hb dX8_listStruck_5 (by decide) ?_
  refine lv_istore_n (lv' := [(1, .int 0), (0, .ref q0)]) hx hb dX8_listStruck_6 rfl hl (by decide) rfl (fun ls hl => ?_)
  obtain ⟨k8, h⟩ := h
  exact w7 k8 0 0 f_struck h H locs ls hP hD hS (lv_sub hl [1, 0] rfl)

def wp_X8_cover_j25 (n_sets : Nat) (v_struckCount : Int32) (v_beats : Int32) (v_rhythm : Int32) (f_struck : (Nat → Int32)) (wrec : Nat → Int32 → Int32 → Int32 → Int32 → (Nat → Int32) → (Nat → Int32) → Int32 → Int32 → Int32 → (Int32 → (Nat → Int32) → Prop) → Prop) (Q : Int32 → (Nat → Int32) → Prop) (v_count : Int32) (f_sets : (Nat → Int32)) : Prop := Q v_count f_sets
def wp_X8_cover_j155 (n_sets : Nat) (v_struckCount : Int32) (v_beats : Int32) (v_rhythm : Int32) (f_struck : (Nat → Int32)) (wrec : Nat → Int32 → Int32 → Int32 → Int32 → (Nat → Int32) → (Nat → Int32) → Int32 → Int32 → Int32 → (Int32 → (Nat → Int32) → Prop) → Prop) (Q : Int32 → (Nat → Int32) → Prop) (v_count : Int32) (f_sets : (Nat → Int32)) : Prop := Q v_count f_sets
def wp_X8_cover_j149 (n_sets : Nat) (v_struckCount : Int32) (v_beats : Int32) (v_rhythm : Int32) (f_struck : (Nat → Int32)) (wrec : Nat → Int32 → Int32 → Int32 → Int32 → (Nat → Int32) → (Nat → Int32) → Int32 → Int32 → Int32 → (Int32 → (Nat → Int32) → Prop) → Prop) (L72 : Int32 → Int32 → Int32 → Int32 → Int32 → Int32 → (Nat → Int32) → Prop) (Q : Int32 → (Nat → Int32) → Prop) (l1 : Int32) (l2 : Int32) (l3 : Int32) (l5 : Int32) (l6 : Int32) (v_count : Int32) (f_sets : (Nat → Int32)) : Prop := ∀ x1 : Int32, x1 = l6 + 1 → L72 l1 l2 l3 l5 x1 v_count f_sets
def wp_X8_cover_h72 (n_sets : Nat) (v_struckCount : Int32) (v_beats : Int32) (v_rhythm : Int32) (f_struck : (Nat → Int32)) (wrec : Nat → Int32 → Int32 → Int32 → Int32 → (Nat → Int32) → (Nat → Int32) → Int32 → Int32 → Int32 → (Int32 → (Nat → Int32) → Prop) → Prop) (Q : Int32 → (Nat → Int32) → Prop) : Nat → Int32 → Int32 → Int32 → Int32 → Int32 → Int32 → (Nat → Int32) → Prop
  | 0, _, _, _, _, _, _, _ => False
  | z72 + 1, l1, l2, l3, l5, l6, v_count, f_sets => (v_struckCount ≤ l6 → (wp_X8_cover_j155 n_sets v_struckCount v_beats v_rhythm f_struck wrec Q v_count f_sets)) ∧ (¬ v_struckCount ≤ l6 → (((Int32.ofNat 24) ≤ l6 → (wp_X8_cover_j155 n_sets v_struckCount v_beats v_rhythm f_struck wrec Q v_count f_sets)) ∧ (¬ (Int32.ofNat 24) ≤ l6 → (vp_in l6 24 ∧ wp_X6_leftOver (l5 - (f_struck (l6 : Int32).toNatClampNeg)) v_beats fun (r4 : Int32) => wp_X6_moved v_beats v_rhythm r4 fun (r5 : Int32) => (¬ (r5 &&& l1) = 0 → (wp_X8_cover_j149 n_sets v_struckCount v_beats v_rhythm f_struck wrec (wp_X8_cover_h72 n_sets v_struckCount v_beats v_rhythm f_struck wrec Q z72) Q l1 l2 l3 l5 l6 v_count f_sets)) ∧ ((r5 &&& l1) = 0 → (wrec n_sets v_struckCount v_count v_beats v_rhythm f_sets f_struck (l1 ||| r5) (l2 ||| (1 <<< (r4 &&& 31))) (l3 + 1) fun (u7 : Int32) (u8 : (Nat → Int32)) => wp_X8_cover_j149 n_sets v_struckCount v_beats v_rhythm f_struck wrec (wp_X8_cover_h72 n_sets v_struckCount v_beats v_rhythm f_struck wrec Q z72) Q l1 l2 l3 l5 l6 u7 u8))))))
def wb_X8_cover (wrec : Nat → Int32 → Int32 → Int32 → Int32 → (Nat → Int32) → (Nat → Int32) → Int32 → Int32 → Int32 → (Int32 → (Nat → Int32) → Prop) → Prop) (n_sets : Nat) (v_struckCount : Int32) (v_count : Int32) (v_beats : Int32) (v_rhythm : Int32) (f_sets : (Nat → Int32)) (f_struck : (Nat → Int32)) (p1 : Int32) (p2 : Int32) (p3 : Int32) (Q : Int32 → (Nat → Int32) → Prop) : Prop := (v_count < 0 → (wp_X8_cover_j25 n_sets v_struckCount v_beats v_rhythm f_struck wrec Q v_count f_sets)) ∧ (¬ v_count < 0 → (((Int32.ofNat n_sets) ≤ v_count → (wp_X8_cover_j25 n_sets v_struckCount v_beats v_rhythm f_struck wrec Q v_count f_sets)) ∧ (¬ (Int32.ofNat n_sets) ≤ v_count → ((p3 ≤ 24 → (wp_X6_inverted v_beats p1 fun (r12 : Int32) => (¬ r12 = 0 → (wp_J6_numberOfTrailingZeros_0f7a4 r12 fun (r14 : Int32) => ∃ k15 : Nat, wp_X8_cover_h72 n_sets v_struckCount v_beats v_rhythm f_struck wrec Q k15 p1 p2 p3 r14 0 v_count f_sets)) ∧ (r12 = 0 → (vp_in v_count n_sets ∧ ∀ g16 : Nat → Int32, g16 = upd f_sets (v_count : Int32).toNatClampNeg p2 → ∀ x17 : Int32, x17 = (v_count + 1) → Q x17 g16)))) ∧ (¬ p3 ≤ 24 → (wp_X8_cover_j25 n_sets v_struckCount v_beats v_rhythm f_struck wrec Q v_count f_sets))))))
def wp_X8_cover : Nat → Nat → Int32 → Int32 → Int32 → Int32 → (Nat → Int32) → (Nat → Int32) → Int32 → Int32 → Int32 → (Int32 → (Nat → Int32) → Prop) → Prop
  | 0, _, _, _, _, _, _, _, _, _, _, _ => False
  | d + 1, n_sets, v_struckCount, v_count, v_beats, v_rhythm, f_sets, f_struck, p1, p2, p3, Q => wb_X8_cover (wp_X8_cover d) n_sets v_struckCount v_count v_beats v_rhythm f_sets f_struck p1 p2 p3 Q
abbrev rmX8_cover (d : Nat) : Room := { frames := 2 + d, cells := 0, slots := 0, locals := 45 + 28 * d }
set_option maxRecDepth 20000 in
theorem iX8_cover_X8 : ∀ w ∈ wsX80, w ∈ wsX8_cover := by decide +kernel
set_option maxHeartbeats 4000000 in
set_option maxRecDepth 100000 in
theorem c_X8_cover (l : Launch) (d : Nat) : ∀ (dC : Nat → ClassId) (dI : Nat → Nat → Nat) (cI cZ : ClassId) (q0 q_sets q_struck : Nat) (sz : Nat) (n_sets : Nat) (v_struckCount : Int32) (v_count : Int32) (v_beats : Int32) (v_rhythm : Int32) (f_sets : (Nat → Int32)) (f_struck : (Nat → Int32)) (p1 : Int32) (p2 : Int32) (p3 : Int32) (Q : Int32 → (Nat → Int32) → Prop) (h : wp_X8_cover d n_sets v_struckCount v_count v_beats v_rhythm f_sets f_struck p1 p2 p3 Q), Met l yX8_cover wsX8_cover (rmX8_cover d) (va_Pc [.ref q0, .int p1, .int p2, .int p3] (fun U => U.heap.size = sz ∧ va_P (dC, dI) vwCl [(q0, .inr (5, [.ref q_sets, .ref q_struck, .int v_struckCount, .int v_count, .int v_beats, .int v_rhythm])), (q_sets, .inl (cI, n_sets, .inl f_sets)), (q_struck, .inl (cI, 24, .inl f_struck))] U.heap ∧ va_K (dC, dI) vwCl (tyZ cI cZ) U ∧ va_D (fun _ => True) [(q0, .inr (5, [.ref q_sets, .ref q_struck, .int v_struckCount, .int v_count, .int v_beats, .int v_rhythm])), (q_sets, .inl (cI, n_sets, .inl f_sets)), (q_struck, .inl (cI, 24, .inl f_struck))] ∧ nW U)) (va_Qv (fun (u : Int32 × (Nat → Int32)) => Q u.1 u.2) (fun (u : Int32 × (Nat → Int32)) (t : State) => va_P (dC, dI) vwCl [(q0, .inr (5, [.ref q_sets, .ref q_struck, .int v_struckCount, .int u.1, .int v_beats, .int v_rhythm])), (q_sets, .inl (cI, n_sets, .inl u.2)), (q_struck, .inl (cI, 24, .inl f_struck))] t.heap ∧ va_D (va_A [(q0, .inr (5, [.ref q_sets, .ref q_struck, .int v_struckCount, .int v_count, .int v_beats, .int v_rhythm])), (q_sets, .inl (cI, n_sets, .inl f_sets)), (q_struck, .inl (cI, 24, .inl f_struck))] sz) [(q0, .inr (5, [.ref q_sets, .ref q_struck, .int v_struckCount, .int u.1, .int v_beats, .int v_rhythm])), (q_sets, .inl (cI, n_sets, .inl u.2)), (q_struck, .inl (cI, 24, .inl f_struck))]) (va_A [(q0, .inr (5, [.ref q_sets, .ref q_struck, .int v_struckCount, .int v_count, .int v_beats, .int v_rhythm])), (q_sets, .inl (cI, n_sets, .inl f_sets)), (q_struck, .inl (cI, 24, .inl f_struck))] sz)) 0 0 (va_A [(q0, .inr (5, [.ref q_sets, .ref q_struck, .int v_struckCount, .int v_count, .int v_beats, .int v_rhythm])), (q_sets, .inl (cI, n_sets, .inl f_sets)), (q_struck, .inl (cI, 24, .inl f_struck))] sz) := by
  induction d with
  | zero => intro dC dI cI cZ q0 q_sets q_struck sz n_sets v_struckCount v_count v_beats v_rhythm f_sets f_struck p1 p2 p3 Q h; unfold wp_X8_cover at h; exact h.elim
  | succ d ih =>
    intro dC dI cI cZ q0 q_sets q_struck sz n_sets v_struckCount v_count v_beats v_rhythm f_sets f_struck p1 p2 p3 Q h
    unfold wp_X8_cover at h
    unfold wb_X8_cover at h
    refine Met.ofW (cc := cX8_cover) (maxL := 9) (ret := none) (by decide) rfl ?_
    intro p e s m args below meth c s₁ B hml hv
    obtain ⟨rfl, hsz, hP, hK, hD0, hN⟩ := hv
    have hx := B.exec
    have hb := B.bytes
    have hr := B.returns
    have hts := atoms_spec (ws := wsX8_cover) B.pre
    have hown : s.vm.findClass RX8 = some m.cls := findClass_of_methodNamed B.named
    have hlocks := B.notSynchronized
    subst hsz
    have hD := hD0.self (sz := s.heap.size)
    generalize hAe : va_A [(q0, .inr (5, [.ref q_sets, .ref q_struck, .int v_struckCount, .int v_count, .int v_beats, .int v_rhythm])), (q_sets, .inl (cI, n_sets, .inl f_sets)), (q_struck, .inl (cI, 24, .inl f_struck))] s.heap.size = A at hD ⊢
    have hA : ∀ q : Nat, s.heap.size ≤ q → A q := fun q h => by rw [← hAe]; exact Or.inr h
    clear hAe
    have hS : va_S A s.heap s.heap [] := va_S.rf
    have w25 : ∀ (v_count : Int32) (f_sets : (Nat → Int32)), wp_X8_cover_j25 n_sets v_struckCount v_beats v_rhythm f_struck (wp_X8_cover d) Q v_count f_sets → ∀ (H : Heap) (locs : List Loc) (ls : Array Slot), va_P (dC, dI) vwCl [(q0, .inr (5, [.ref q_sets, .ref q_struck, .int v_struckCount, .int v_count, .int v_beats, .int v_rhythm])), (q_sets, .inl (cI, n_sets, .inl f_sets)), (q_struck, .inl (cI, 24, .inl f_struck))] H → va_D A [(q0, .inr (5, [.ref q_sets, .ref q_struck, .int v_struckCount, .int v_count, .int v_beats, .int v_rhythm])), (q_sets, .inl (cI, n_sets, .inl f_sets)), (q_struck, .inl (cI, 24, .inl f_struck))] → va_S A s.heap H locs → lv_has ls 9 [] → W p l e (headSpec wsX8_cover (rmX8_cover (d + 1))).room s m ([.ref q0, .int p1, .int p2, .int p3] : List Value).toArray below meth c H locs 0 0 (MQ below (va_Qv (fun (u : Int32 × (Nat → Int32)) => Q u.1 u.2) (fun (u : Int32 × (Nat → Int32)) (t : State) => va_P (dC, dI) vwCl [(q0, .inr (5, [.ref q_sets, .ref q_struck, .int v_struckCount, .int u.1, .int v_beats, .int v_rhythm])), (q_sets, .inl (cI, n_sets, .inl u.2)), (q_struck, .inl (cI, 24, .inl f_struck))] t.heap ∧ va_D A [(q0, .inr (5, [.ref q_sets, .ref q_struck, .int v_struckCount, .int u.1, .int v_beats, .int v_rhythm])), (q_sets, .inl (cI, n_sets, .inl u.2)), (q_struck, .inl (cI, 24, .inl f_struck))]) A) ([.ref q0, .int p1, .int p2, .int p3] : List Value).toArray s 0 0 A) (F0 m 25 ls []) := by
      intro v_count f_sets h H locs ls hP hD hS hl
      unfold wp_X8_cover_j25 at h
      exact W.vret hx hb hr (fun t ht hW => ⟨⟨(v_count, f_sets), rfl, h, by rw [ht]; exact hP, hD⟩, hS.F ht⟩) hS.2.2 dX8_cover_25
    have w155 : ∀ (v_count : Int32) (f_sets : (Nat → Int32)), wp_X8_cover_j155 n_sets v_struckCount v_beats v_rhythm f_struck (wp_X8_cover d) Q v_count f_sets → ∀ (H : Heap) (locs : List Loc) (ls : Array Slot), va_P (dC, dI) vwCl [(q0, .inr (5, [.ref q_sets, .ref q_struck, .int v_struckCount, .int v_count, .int v_beats, .int v_rhythm])), (q_sets, .inl (cI, n_sets, .inl f_sets)), (q_struck, .inl (cI, 24, .inl f_struck))] H → va_D A [(q0, .inr (5, [.ref q_sets, .ref q_struck, .int v_struckCount, .int v_count, .int v_beats, .int v_rhythm])), (q_sets, .inl (cI, n_sets, .inl f_sets)), (q_struck, .inl (cI, 24, .inl f_struck))] → va_S A s.heap H locs → lv_has ls 9 [] → W p l e (headSpec wsX8_cover (rmX8_cover (d + 1))).room s m ([.ref q0, .int p1, .int p2, .int p3] : List Value).toArray below meth c H locs 0 0 (MQ below (va_Qv (fun (u : Int32 × (Nat → Int32)) => Q u.1 u.2) (fun (u : Int32 × (Nat → Int32)) (t : State) => va_P (dC, dI) vwCl [(q0, .inr (5, [.ref q_sets, .ref q_struck, .int v_struckCount, .int u.1, .int v_beats, .int v_rhythm])), (q_sets, .inl (cI, n_sets, .inl u.2)), (q_struck, .inl (cI, 24, .inl f_struck))] t.heap ∧ va_D A [(q0, .inr (5, [.ref q_sets, .ref q_struck, .int v_struckCount, .int u.1, .int v_beats, .int v_rhythm])), (q_sets, .inl (cI, n_sets, .inl u.2)), (q_struck, .inl (cI, 24, .inl f_struck))]) A) ([.ref q0, .int p1, .int p2, .int p3] : List Value).toArray s 0 0 A) (F0 m 155 ls []) := by
      intro v_count f_sets h H locs ls hP hD hS hl
      unfold wp_X8_cover_j155 at h
      exact W.vret hx hb hr (fun t ht hW => ⟨⟨(v_count, f_sets), rfl, h, by rw [ht]; exact hP, hD⟩, hS.F ht⟩) hS.2.2 dX8_cover_155
    have w72 : ∀ (z72 : Nat) (l1 : Int32) (l2 : Int32) (l3 : Int32) (l5 : Int32) (l6 : Int32) (v_count : Int32) (f_sets : (Nat → Int32)), wp_X8_cover_h72 n_sets v_struckCount v_beats v_rhythm f_struck (wp_X8_cover d) Q z72 l1 l2 l3 l5 l6 v_count f_sets → ∀ (H : Heap) (locs : List Loc) (ls : Array Slot), va_P (dC, dI) vwCl [(q0, .inr (5, [.ref q_sets, .ref q_struck, .int v_struckCount, .int v_count, .int v_beats, .int v_rhythm])), (q_sets, .inl (cI, n_sets, .inl f_sets)), (q_struck, .inl (cI, 24, .inl f_struck))] H → va_D A [(q0, .inr (5, [.ref q_sets, .ref q_struck, .int v_struckCount, .int v_count, .int v_beats, .int v_rhythm])), (q_sets, .inl (cI, n_sets, .inl f_sets)), (q_struck, .inl (cI, 24, .inl f_struck))] → va_S A s.heap H locs → lv_has ls 9 [(0, .ref q0), (1, .int l1), (2, .int l2), (3, .int l3), (5, .int l5), (6, .int l6)] → W p l e (headSpec wsX8_cover (rmX8_cover (d + 1))).room s m ([.ref q0, .int p1, .int p2, .int p3] : List Value).toArray below meth c H locs 0 0 (MQ below (va_Qv (fun (u : Int32 × (Nat → Int32)) => Q u.1 u.2) (fun (u : Int32 × (Nat → Int32)) (t : State) => va_P (dC, dI) vwCl [(q0, .inr (5, [.ref q_sets, .ref q_struck, .int v_struckCount, .int u.1, .int v_beats, .int v_rhythm])), (q_sets, .inl (cI, n_sets, .inl u.2)), (q_struck, .inl (cI, 24, .inl f_struck))] t.heap ∧ va_D A [(q0, .inr (5, [.ref q_sets, .ref q_struck, .int v_struckCount, .int u.1, .int v_beats, .int v_rhythm])), (q_sets, .inl (cI, n_sets, .inl u.2)), (q_struck, .inl (cI, 24, .inl f_struck))]) A) ([.ref q0, .int p1, .int p2, .int p3] : List Value).toArray s 0 0 A) (F0 m 72 ls []) := by
      intro z72
      induction z72 with
      | zero => intro l1 l2 l3 l5 l6 v_count f_sets h; unfold wp_X8_cover_h72 at h; exact h.elim
      | succ z72 k72 =>
        have w149 : ∀ (l1 : Int32) (l2 : Int32) (l3 : Int32) (l5 : Int32) (l6 : Int32) (v_count : Int32) (f_sets : (Nat → Int32)), wp_X8_cover_j149 n_sets v_struckCount v_beats v_rhythm f_struck (wp_X8_cover d) (wp_X8_cover_h72 n_sets v_struckCount v_beats v_rhythm f_struck (wp_X8_cover d) Q z72) Q l1 l2 l3 l5 l6 v_count f_sets → ∀ (H : Heap) (locs : List Loc) (ls : Array Slot), va_P (dC, dI) vwCl [(q0, .inr (5, [.ref q_sets, .ref q_struck, .int v_struckCount, .int v_count, .int v_beats, .int v_rhythm])), (q_sets, .inl (cI, n_sets, .inl f_sets)), (q_struck, .inl (cI, 24, .inl f_struck))] H → va_D A [(q0, .inr (5, [.ref q_sets, .ref q_struck, .int v_struckCount, .int v_count, .int v_beats, .int v_rhythm])), (q_sets, .inl (cI, n_sets, .inl f_sets)), (q_struck, .inl (cI, 24, .inl f_struck))] → va_S A s.heap H locs → lv_has ls 9 [(0, .ref q0), (1, .int l1), (2, .int l2), (3, .int l3), (5, .int l5), (6, .int l6)] → W p l e (headSpec wsX8_cover (rmX8_cover (d + 1))).room s m ([.ref q0, .int p1, .int p2, .int p3] : List Value).toArray below meth c H locs 0 0 (MQ below (va_Qv (fun (u : Int32 × (Nat → Int32)) => Q u.1 u.2) (fun (u : Int32 × (Nat → Int32)) (t : State) => va_P (dC, dI) vwCl [(q0, .inr (5, [.ref q_sets, .ref q_struck, .int v_struckCount, .int u.1, .int v_beats, .int v_rhythm])), (q_sets, .inl (cI, n_sets, .inl u.2)), (q_struck, .inl (cI, 24, .inl f_struck))] t.heap ∧ va_D A [(q0, .inr (5, [.ref q_sets, .ref q_struck, .int v_struckCount, .int u.1, .int v_beats, .int v_rhythm])), (q_sets, .inl (cI, n_sets, .inl u.2)), (q_struck, .inl (cI, 24, .inl f_struck))]) A) ([.ref q0, .int p1, .int p2, .int p3] : List Value).toArray s 0 0 A) (F0 m 149 ls []) := by
          intro l1 l2 l3 l5 l6 v_count f_sets h H locs ls hP hD hS hl
          unfold wp_X8_cover_j149 at h
          obtain ⟨x1, ex1⟩ : ∃ y : Int32, y = l6 + 1 := ⟨_, rfl⟩
          replace h := h x1 ex1
          refine lv_iinc (v := x1) (lv' := [(6, .int x1), (0, .ref q0), (1, .int l1), (2, .int l2), (3, .int l3), (5, .int l5)]) hx hb dX8_cover_149 hl (k := 5) rfl (by rw [ex1]; rfl) (by decide) rfl (fun ls hl => ?_)
          refine lv_goto (tgt := 72) hx hb dX8_cover_152 (by decide) ?_
          exact k72 l1 l2 l3 l5 x1 v_count f_sets h H locs ls hP hD hS (lv_sub hl [1, 2, 3, 4, 5, 0] rfl)
        intro l1 l2 l3 l5 l6 v_count f_sets h H locs ls hP hD hS hl
        unfold wp_X8_cover_h72 at h
        refine lv_iload hx hb dX8_cover_72 (lv_at hl 5 rfl) ?_
        refine lv_aload_n hx hb dX8_cover_74 rfl (lv_at hl 0 rfl) ?_
        refine va_get (D := (dC, dI)) (ci := 5) (v := .int v_struckCount) (C := RX8) (T := TX8) (N := 6) hx hb hts iX8_cover_X8 hown hK hP 0 rfl rfl 2 (by decide) (hts (.fieldLink RX8 24 "TilingBeats$Tilings" "struckCount" "I") (by decide +kernel)) (fun _ h9 => h9) rfl dX8_cover_75 ?_
        refine lv_icmp_ge (tgt := 155) hx hb dX8_cover_78 (by decide) (fun c2 => ?_) (fun c2 => ?_)
        · replace h := h.1 c2
          exact w155 v_count f_sets h H locs ls hP hD hS (lv_sub hl [] rfl)
        · replace h := h.2 c2
          refine lv_iload hx hb dX8_cover_81 (lv_at hl 5 rfl) ?_
          refine lv_aload_n hx hb dX8_cover_83 rfl (lv_at hl 0 rfl) ?_
          refine va_get (D := (dC, dI)) (ci := 5) (v := .ref q_struck) (C := RX8) (T := TX8) (N := 6) hx hb hts iX8_cover_X8 hown hK hP 0 rfl rfl 1 (by decide) (hts (.fieldLink RX8 21 "TilingBeats$Tilings" "struck" "[I") (by decide +kernel)) (fun _ h9 => h9) rfl dX8_cover_84 ?_
          refine va_alen (D := (dC, dI)) (v := (Int32.ofNat 24)) hx hb hK hP 2 0 rfl rfl rfl dX8_cover_87 ?_
          refine lv_icmp_ge (tgt := 155) hx hb dX8_cover_88 (by decide) (fun c3 => ?_) (fun c3 => ?_)
          · replace h := h.1 c3
            exact w155 v_count f_sets h H locs ls hP hD hS (lv_sub hl [] rfl)
          · replace h := h.2 c3
            refine lv_iload hx hb dX8_cover_91 (lv_at hl 4 rfl) ?_
            refine lv_aload_n hx hb dX8_cover_93 rfl (lv_at hl 0 rfl) ?_
            refine va_get (D := (dC, dI)) (ci := 5) (v := .ref q_struck) (C := RX8) (T := TX8) (N := 6) hx hb hts iX8_cover_X8 hown hK hP 0 rfl rfl 1 (by decide) (hts (.fieldLink RX8 21 "TilingBeats$Tilings" "struck" "[I") (by decide +kernel)) (fun _ h9 => h9) rfl dX8_cover_94 ?_
            refine lv_iload hx hb dX8_cover_97 (lv_at hl 5 rfl) ?_
            refine va_iald (D := (dC, dI)) hx hb hK hP 2 0 rfl rfl h.1 dX8_cover_99 ?_
            replace h := h.2
            refine lv_isub hx hb dX8_cover_100 ?_
            refine lv_aload_n hx hb dX8_cover_101 rfl (lv_at hl 0 rfl) ?_
            refine va_get (D := (dC, dI)) (ci := 5) (v := .int v_beats) (C := RX8) (T := TX8) (N := 6) hx hb hts iX8_cover_X8 hown hK hP 0 rfl rfl 4 (by decide) (hts (.fieldLink RX8 31 "TilingBeats$Tilings" "beats" "I") (by decide +kernel)) (fun _ h9 => h9) rfl dX8_cover_102 ?_
            refine vs_calli (va_runSN (As := [.int (l5 - (f_struck (l6 : Int32).toNatClampNeg)), .int v_beats]) (rest := []) ⟨hx, hb, hml, hown, hts⟩ (c_X6_leftOver l (l5 - (f_struck (l6 : Int32).toNatClampNeg)) v_beats _ h) ⟨va_cnB 2 hts gX8_cover_X6_leftOver_n43 rfl rfl rfl (nw_24 hN) (hts (.initialized RX6) (by decide +kernel)) (by decide +kernel) ⟨by show 1 ≤ _ + (d + 1); omega, by show 22 ≤ _ + _ * (d + 1); omega⟩, hts (.static yX6_leftOver) (by decide +kernel), trivial⟩ ⟨fun a U g mk q => ⟨q.1, nW_call q.2⟩, fun U hU hW => ⟨rfl, nW_warm hW hN⟩⟩ rfl rfl hl.1 rfl (lv_room (Nat.le_of_ble_eq_true rfl)) dX8_cover_105 ⟨Nat.le_of_ble_eq_true rfl, Nat.le_of_ble_eq_true rfl⟩) (fun r4 h => ?_)
            refine lv_istore (lv' := [(7, .int r4), (0, .ref q0), (1, .int l1), (2, .int l2), (3, .int l3), (5, .int l5), (6, .int l6)]) hx hb dX8_cover_108 hl (by decide) rfl (fun ls hl => ?_)
            refine lv_aload_n hx hb dX8_cover_110 rfl (lv_at hl 1 rfl) ?_
            refine va_get (D := (dC, dI)) (ci := 5) (v := .int v_beats) (C := RX8) (T := TX8) (N := 6) hx hb hts iX8_cover_X8 hown hK hP 0 rfl rfl 4 (by decide) (hts (.fieldLink RX8 31 "TilingBeats$Tilings" "beats" "I") (by decide +kernel)) (fun _ h9 => h9) rfl dX8_cover_111 ?_
            refine lv_aload_n hx hb dX8_cover_114 rfl (lv_at hl 1 rfl) ?_
            refine va_get (D := (dC, dI)) (ci := 5) (v := .int v_rhythm) (C := RX8) (T := TX8) (N := 6) hx hb hts iX8_cover_X8 hown hK hP 0 rfl rfl 5 (by decide) (hts (.fieldLink RX8 34 "TilingBeats$Tilings" "rhythm" "I") (by decide +kernel)) (fun _ h9 => h9) rfl dX8_cover_115 ?_
            refine lv_iload hx hb dX8_cover_118 (lv_at hl 0 rfl) ?_
            refine vs_calli (va_runSN (As := [.int v_beats, .int v_rhythm, .int r4]) (rest := []) ⟨hx, hb, hml, hown, hts⟩ (c_X6_moved l v_beats v_rhythm r4 _ h) ⟨va_cnB 3 hts gX8_cover_X6_moved_n67 rfl rfl rfl (nw_27 hN) (hts (.initialized RX6) (by decide +kernel)) (by decide +kernel) ⟨by show 2 ≤ _ + (d + 1); omega, by show 45 ≤ _ + _ * (d + 1); omega⟩, hts (.static yX6_moved) (by decide +kernel), trivial⟩ ⟨fun a U g mk q => ⟨q.1, nW_call q.2⟩, fun U hU hW => ⟨rfl, nW_warm hW hN⟩⟩ rfl rfl hl.1 rfl (lv_room (Nat.le_of_ble_eq_true rfl)) dX8_cover_120 ⟨Nat.le_of_ble_eq_true rfl, Nat.le_of_ble_eq_true rfl⟩) (fun r5 h => ?_)
            refine lv_istore (lv' := [(8, .int r5), (7, .int r4), (0, .ref q0), (1, .int l1), (2, .int l2), (3, .int l3), (5, .int l5), (6, .int l6)]) hx hb dX8_cover_123 hl (by decide) rfl (fun ls hl => ?_)
            refine lv_iload hx hb dX8_cover_125 (lv_at hl 0 rfl) ?_
            refine lv_iload_n hx hb dX8_cover_127 rfl (lv_at hl 3 rfl) ?_
            refine lv_iand hx hb dX8_cover_128 ?_
            refine lv_if_ne (tgt := 149) hx hb dX8_cover_129 (by decide) (fun c6 => ?_) (fun c6 => ?_)
            · replace h := h.1 c6
              exact w149 l1 l2 l3 l5 l6 v_count f_sets h H locs ls hP hD hS (lv_sub hl [2, 3, 4, 5, 6, 7] rfl)
            · replace h := h.2 c6
              refine lv_aload_n hx hb dX8_cover_132 rfl (lv_at hl 2 rfl) ?_
              refine lv_iload_n hx hb dX8_cover_133 rfl (lv_at hl 3 rfl) ?_
              refine lv_iload hx hb dX8_cover_134 (lv_at hl 0 rfl) ?_
              refine lv_ior hx hb dX8_cover_136 ?_
              refine lv_iload_n hx hb dX8_cover_137 rfl (lv_at hl 4 rfl) ?_
              refine lv_iconst (v := 1) hx hb dX8_cover_138 (by decide) ?_
              refine lv_iload hx hb dX8_cover_139 (lv_at hl 1 rfl) ?_
              refine lv_ishl hx hb dX8_cover_141 ?_
              refine lv_ior hx hb dX8_cover_142 ?_
              refine lv_iload_n hx hb dX8_cover_143 rfl (lv_at hl 5 rfl) ?_
              refine lv_iconst (v := 1) hx hb dX8_cover_144 (by decide) ?_
              refine lv_iadd hx hb dX8_cover_145 ?_
              have hPc := hP.sub (ws' := [(q0, .inr (5, [.ref q_sets, .ref q_struck, .int v_struckCount, .int v_count, .int v_beats, .int v_rhythm])), (q_sets, .inl (cI, n_sets, .inl f_sets)), (q_struck, .inl (cI, 24, .inl f_struck))]) [0, 1, 2] rfl
              have hDc := hD.sub (ws' := [(q0, .inr (5, [.ref q_sets, .ref q_struck, .int v_struckCount, .int v_count, .int v_beats, .int v_rhythm])), (q_sets, .inl (cI, n_sets, .inl f_sets)), (q_struck, .inl (cI, 24, .inl f_struck))]) [0, 1, 2] (by decide) rfl
              have hFc := va_free (wc := [(q0, .inr (5, [.ref q_sets, .ref q_struck, .int v_struckCount, .int v_count, .int v_beats, .int v_rhythm])), (q_sets, .inl (cI, n_sets, .inl f_sets)), (q_struck, .inl (cI, 24, .inl f_struck))]) hD hS hA [0, 1, 2] rfl
              refine va_callv (va_runS (As := [.ref q0, .int (l1 ||| r5), .int (l2 ||| (1 <<< (r4 &&& 31))), .int (l3 + 1)]) (rest := []) ⟨hx, hb, hml, hown, hts⟩ (ih dC dI cI cZ q0 q_sets q_struck H.size n_sets v_struckCount v_count v_beats v_rhythm f_sets f_struck (l1 ||| r5) (l2 ||| (1 <<< (r4 &&& 31))) (l3 + 1) _ h) (va_cwS 4 hts gX8_cover_X8_cover rfl rfl rfl (by decide +kernel) ⟨by show _ + d + 1 ≤ _ + (d + 1); omega, by show 8 + (9 + 11) + (_ + 28 * d) ≤ _ + 28 * (d + 1); omega⟩) ⟨fun a U g mk q => ⟨q.1, q.2.1, q.2.2.1, va_K.moved (u := U) (U := U.calling g mk a) (Vm.Alike.refl U.vm) q.2.2.2.1, q.2.2.2.2.1, nW_call q.2.2.2.2.2⟩, fun U hU hW => ⟨rfl, by rw [hU], by rw [hU]; exact hPc, va_K.moved hW.alike hK, hDc.weaken (fun _ _ _ _ => trivial), nW_warm hW hN⟩⟩ rfl rfl hl.1 rfl (lv_room (Nat.le_of_ble_eq_true rfl)) dX8_cover_146 ⟨Nat.le_of_ble_eq_true rfl, Nat.le_of_ble_eq_true rfl⟩) hS (fun q _ h => hFc q h) hFc (fun u t H1 locs ht hvm hw hB hz1 hk1 hS => ?_)
              obtain ⟨u7, u8⟩ := u
              obtain ⟨hP1, hD1⟩ := hB
              rw [ht] at hP1
              replace h := hw
              try dsimp only at h
              obtain ⟨hP, hD⟩ := va_join (wr := []) (w1 := [(q0, .inr (5, [.ref q_sets, .ref q_struck, .int v_struckCount, .int u7, .int v_beats, .int v_rhythm])), (q_sets, .inl (cI, n_sets, .inl u8)), (q_struck, .inl (cI, 24, .inl f_struck))]) hP hD [0, 1, 2] [] rfl rfl (by decide) (by decide) hk1 hFc hP1 hD1
              clear hP1 hD1 hFc hDc hPc hk1 hz1 hw hvm ht
              generalize H1 = H at hP hS ⊢
              have hP : va_P (dC, dI) vwCl [(q0, .inr (5, [.ref q_sets, .ref q_struck, .int v_struckCount, .int u7, .int v_beats, .int v_rhythm])), (q_sets, .inl (cI, n_sets, .inl u8)), (q_struck, .inl (cI, 24, .inl f_struck))] H := hP.sub [0, 1, 2] rfl
              have hD : va_D A [(q0, .inr (5, [.ref q_sets, .ref q_struck, .int v_struckCount, .int u7, .int v_beats, .int v_rhythm])), (q_sets, .inl (cI, n_sets, .inl u8)), (q_struck, .inl (cI, 24, .inl f_struck))] := hD.sub [0, 1, 2] (by decide) rfl
              exact w149 l1 l2 l3 l5 l6 u7 u8 h H locs ls hP hD hS (lv_sub hl [2, 3, 4, 5, 6, 7] rfl)
    have hl := lv_entry ([.ref q0, .int p1, .int p2, .int p3]) (n := 9) (Nat.le_of_ble_eq_true rfl)
    rw [lg_entry_eq]
    generalize (lg_sl ([.ref q0, .int p1, .int p2, .int p3]) ++ List.replicate (9 - (lg_sl ([.ref q0, .int p1, .int p2, .int p3])).length) Slot.unset).toArray = ls at hl ⊢
    have hl : lv_has ls 9 [(0, .ref q0), (1, .int p1), (2, .int p2), (3, .int p3)] := hl
    refine lv_aload_n hx hb dX8_cover_0 rfl (lv_at hl 0 rfl) ?_
    refine va_get (D := (dC, dI)) (ci := 5) (v := .int v_count) (C := RX8) (T := TX8) (N := 6) hx hb hts iX8_cover_X8 hown hK hP 0 rfl rfl 3 (by decide) (hts (.fieldLink RX8 28 "TilingBeats$Tilings" "count" "I") (by decide +kernel)) (fun _ h9 => h9) rfl dX8_cover_1 ?_
    refine lv_if_lt (tgt := 25) hx hb dX8_cover_4 (by decide) (fun c9 => ?_) (fun c9 => ?_)
    · replace h := h.1 c9
      exact w25 v_count f_sets h s.heap [] ls hP hD hS (lv_sub hl [] rfl)
    · replace h := h.2 c9
      refine lv_aload_n hx hb dX8_cover_7 rfl (lv_at hl 0 rfl) ?_
      refine va_get (D := (dC, dI)) (ci := 5) (v := .int v_count) (C := RX8) (T := TX8) (N := 6) hx hb hts iX8_cover_X8 hown hK hP 0 rfl rfl 3 (by decide) (hts (.fieldLink RX8 28 "TilingBeats$Tilings" "count" "I") (by decide +kernel)) (fun _ h9 => h9) rfl dX8_cover_8 ?_
      refine lv_aload_n hx hb dX8_cover_11 rfl (lv_at hl 0 rfl) ?_
      refine va_get (D := (dC, dI)) (ci := 5) (v := .ref q_sets) (C := RX8) (T := TX8) (N := 6) hx hb hts iX8_cover_X8 hown hK hP 0 rfl rfl 0 (by decide) (hts (.fieldLink RX8 15 "TilingBeats$Tilings" "sets" "[I") (by decide +kernel)) (fun _ h9 => h9) rfl dX8_cover_12 ?_
      refine va_alen (D := (dC, dI)) (v := (Int32.ofNat n_sets)) hx hb hK hP 1 0 rfl rfl rfl dX8_cover_15 ?_
      refine lv_icmp_ge (tgt := 25) hx hb dX8_cover_16 (by decide) (fun c10 => ?_) (fun c10 => ?_)
      · replace h := h.1 c10
        exact w25 v_count f_sets h s.heap [] ls hP hD hS (lv_sub hl [] rfl)
      · replace h := h.2 c10
        refine lv_iload_n hx hb dX8_cover_19 rfl (lv_at hl 3 rfl) ?_
        refine lv_bipush (v := 24) hx hb dX8_cover_20 (by decide) ?_
        refine lv_icmp_le (tgt := 26) hx hb dX8_cover_22 (by decide) (fun c11 => ?_) (fun c11 => ?_)
        · replace h := h.1 c11
          refine lv_aload_n hx hb dX8_cover_26 rfl (lv_at hl 0 rfl) ?_
          refine va_get (D := (dC, dI)) (ci := 5) (v := .int v_beats) (C := RX8) (T := TX8) (N := 6) hx hb hts iX8_cover_X8 hown hK hP 0 rfl rfl 4 (by decide) (hts (.fieldLink RX8 31 "TilingBeats$Tilings" "beats" "I") (by decide +kernel)) (fun _ h9 => h9) rfl dX8_cover_27 ?_
          refine lv_iload_n hx hb dX8_cover_30 rfl (lv_at hl 1 rfl) ?_
          refine vs_calli (va_runSN (As := [.int v_beats, .int p1]) (rest := []) ⟨hx, hb, hml, hown, hts⟩ (c_X6_inverted l v_beats p1 _ h) ⟨va_cnB 2 hts gX8_cover_X6_inverted_n61 rfl rfl rfl (nw_26 hN) (hts (.initialized RX6) (by decide +kernel)) (by decide +kernel) ⟨by show 2 ≤ _ + (d + 1); omega, by show 41 ≤ _ + _ * (d + 1); omega⟩, hts (.static yX6_inverted) (by decide +kernel), trivial⟩ ⟨fun a U g mk q => ⟨q.1, nW_call q.2⟩, fun U hU hW => ⟨rfl, nW_warm hW hN⟩⟩ rfl rfl hl.1 rfl (lv_room (Nat.le_of_ble_eq_true rfl)) dX8_cover_31 ⟨Nat.le_of_ble_eq_true rfl, Nat.le_of_ble_eq_true rfl⟩) (fun r12 h => ?_)
          refine lv_istore (lv' := [(4, .int r12), (0, .ref q0), (1, .int p1), (2, .int p2), (3, .int p3)]) hx hb dX8_cover_34 hl (by decide) rfl (fun ls hl => ?_)
          refine lv_iload hx hb dX8_cover_36 (lv_at hl 0 rfl) ?_
          refine lv_if_ne (tgt := 62) hx hb dX8_cover_38 (by decide) (fun c13 => ?_) (fun c13 => ?_)
          · replace h := h.1 c13
            refine lv_iload hx hb dX8_cover_62 (lv_at hl 0 rfl) ?_
            refine vs_calli (va_runS (As := [.int r12]) (rest := []) ⟨hx, hb, hml, hown, hts⟩ (c_J6_numberOfTrailingZeros_0f7a4 l r12 _ h) (va_cwS 1 hts gX8_cover_J6_numberOfTrailingZeros_0f7a4 rfl rfl rfl (by decide +kernel) ⟨by show 1 ≤ _ + (d + 1); omega, by show 21 ≤ _ + _ * (d + 1); omega⟩) ⟨fun a U g mk q => ⟨q.1, nW_call q.2⟩, fun U hU hW => ⟨rfl, nW_warm hW hN⟩⟩ rfl rfl hl.1 rfl (lv_room (Nat.le_of_ble_eq_true rfl)) dX8_cover_64 ⟨Nat.le_of_ble_eq_true rfl, Nat.le_of_ble_eq_true rfl⟩) (fun r14 h => ?_)
            refine lv_istore (lv' := [(5, .int r14), (4, .int r12), (0, .ref q0), (1, .int p1), (2, .int p2), (3, .int p3)]) hx hb dX8_cover_67 hl (by decide) rfl (fun ls hl => ?_)
            refine lv_iconst (v := 0) hx hb dX8_cover_69 (by decide) ?_
            refine lv_istore (lv' := [(6, .int 0), (5, .int r14), (4, .int r12), (0, .ref q0), (1, .int p1), (2, .int p2), (3, .int p3)]) hx hb dX8_cover_70 hl (by decide) rfl (fun ls hl => ?_)
            obtain ⟨k15, h⟩ := h
            exact w72 k15 p1 p2 p3 r14 0 v_count f_sets h s.heap [] ls hP hD hS (lv_sub hl [3, 4, 5, 6, 1, 0] rfl)
          · replace h := h.2 c13
            refine lv_aload_n hx hb dX8_cover_41 rfl (lv_at hl 1 rfl) ?_
            refine va_get (D := (dC, dI)) (ci := 5) (v := .ref q_sets) (C := RX8) (T := TX8) (N := 6) hx hb hts iX8_cover_X8 hown hK hP 0 rfl rfl 0 (by decide) (hts (.fieldLink RX8 15 "TilingBeats$Tilings" "sets" "[I") (by decide +kernel)) (fun _ h9 => h9) rfl dX8_cover_42 ?_
            refine lv_aload_n hx hb dX8_cover_45 rfl (lv_at hl 1 rfl) ?_
            refine va_get (D := (dC, dI)) (ci := 5) (v := .int v_count) (C := RX8) (T := TX8) (N := 6) hx hb hts iX8_cover_X8 hown hK hP 0 rfl rfl 3 (by decide) (hts (.fieldLink RX8 28 "TilingBeats$Tilings" "count" "I") (by decide +kernel)) (fun _ h9 => h9) rfl dX8_cover_46 ?_
            refine lv_iload_n hx hb dX8_cover_49 rfl (lv_at hl 3 rfl) ?_
            refine va_iast (D := (dC, dI)) hx hb hK hP hD hS 1 0 rfl rfl h.1 dX8_cover_50 (fun H locs hP hD hS => ?_)
            obtain ⟨g16, eg16⟩ : ∃ y : Nat → Int32, y = upd f_sets (v_count : Int32).toNatClampNeg p2 := ⟨_, rfl⟩
            replace h := h.2 g16 eg16
            rw [← eg16] at hP hD
            have hP : va_P (dC, dI) vwCl [(q0, .inr (5, [.ref q_sets, .ref q_struck, .int v_struckCount, .int v_count, .int v_beats, .int v_rhythm])), (q_sets, .inl (cI, n_sets, .inl g16)), (q_struck, .inl (cI, 24, .inl f_struck))] H := hP
            have hD : va_D A [(q0, .inr (5, [.ref q_sets, .ref q_struck, .int v_struckCount, .int v_count, .int v_beats, .int v_rhythm])), (q_sets, .inl (cI, n_sets, .inl g16)), (q_struck, .inl (cI, 24, .inl f_struck))] := hD
            refine lv_aload_n hx hb dX8_cover_51 rfl (lv_at hl 1 rfl) ?_
            refine lv_dup hx hb dX8_cover_52 rfl ?_
            refine va_get (D := (dC, dI)) (ci := 5) (v := .int v_count) (C := RX8) (T := TX8) (N := 6) hx hb hts iX8_cover_X8 hown hK hP 0 rfl rfl 3 (by decide) (hts (.fieldLink RX8 28 "TilingBeats$Tilings" "count" "I") (by decide +kernel)) (fun _ h9 => h9) rfl dX8_cover_53 ?_
            refine lv_iconst (v := 1) hx hb dX8_cover_56 (by decide) ?_
            refine lv_iadd hx hb dX8_cover_57 ?_
            refine lv_topi (fun x17 ex17 => ?_)
            replace h := h x17 ex17
            refine va_put (D := (dC, dI)) (ci := 5) (v := .int x17) (ty := .int) (C := RX8) (T := TX8) (N := 6) hx hb hts iX8_cover_X8 tyX8 tyX8_ok nmX8 hown hK hP hD hS 0 rfl rfl 3 (by decide) (hts (.fieldLink RX8 28 "TilingBeats$Tilings" "count" "I") (by decide +kernel)) (fun _ h9 => h9) rfl (by decide +kernel) rfl rfl (Nat.le_of_ble_eq_true rfl) dX8_cover_58 (fun H locs hP hD hS => ?_)
            have hP : va_P (dC, dI) vwCl [(q0, .inr (5, [.ref q_sets, .ref q_struck, .int v_struckCount, .int x17, .int v_beats, .int v_rhythm])), (q_sets, .inl (cI, n_sets, .inl g16)), (q_struck, .inl (cI, 24, .inl f_struck))] H := hP
            have hD : va_D A [(q0, .inr (5, [.ref q_sets, .ref q_struck, .int v_struckCount, .int x17, .int v_beats, .int v_rhythm])), (q_sets, .inl (cI, n_sets, .inl g16)), (q_struck, .inl (cI, 24, .inl f_struck))] := hD
            exact W.vret hx hb hr (fun t ht hW => ⟨⟨(x17, g16), rfl, h, by rw [ht]; exact hP, hD⟩, hS.F ht⟩) hS.2.2 dX8_cover_61
        · replace h := h.2 c11
          exact w25 v_count f_sets h s.heap [] ls hP hD hS (lv_sub hl [] rfl)

def wp_X8_sort_j113 (n_sets : Nat) (v_count : Int32) (L7 : Int32 → (Nat → Int32) → Prop) (Q : (Nat → Int32) → Prop) (s0 : Int32) (f_sets : (Nat → Int32)) : Prop := L7 s0 f_sets
def wp_X8_sort_j98 (n_sets : Nat) (v_count : Int32) (L7 : Int32 → (Nat → Int32) → Prop) (Q : (Nat → Int32) → Prop) (l1 : Int32) (f_sets : (Nat → Int32)) : Prop := (¬ l1 = 2 → ((¬ (11 : Int32) = 0) ∧ wp_X8_sort_j113 n_sets v_count L7 Q ((l1 * 5) / 11) f_sets)) ∧ (l1 = 2 → (wp_X8_sort_j113 n_sets v_count L7 Q 1 f_sets))
def wp_X8_sort_j84 (n_sets : Nat) (v_count : Int32) (L7 : Int32 → (Nat → Int32) → Prop) (L13 : Int32 → Int32 → (Nat → Int32) → Prop) (Q : (Nat → Int32) → Prop) (l1 : Int32) (l2 : Int32) (l3 : Int32) (l4 : Int32) (f_sets : (Nat → Int32)) : Prop := vp_in l4 n_sets ∧ ∀ g2 : Nat → Int32, g2 = upd f_sets (l4 : Int32).toNatClampNeg l3 → ∀ x3 : Int32, x3 = l2 + 1 → L13 l1 x3 g2
def wp_X8_sort_h40 (n_sets : Nat) (v_count : Int32) (L7 : Int32 → (Nat → Int32) → Prop) (L13 : Int32 → Int32 → (Nat → Int32) → Prop) (Q : (Nat → Int32) → Prop) : Nat → Int32 → Int32 → Int32 → Int32 → (Nat → Int32) → Prop
  | 0, _, _, _, _, _ => False
  | z40 + 1, l1, l2, l3, l4, f_sets => (l4 < l1 → (wp_X8_sort_j84 n_sets v_count L7 L13 Q l1 l2 l3 l4 f_sets)) ∧ (¬ l4 < l1 → (vp_in (l4 - l1) n_sets ∧ ((f_sets ((l4 - l1) : Int32).toNatClampNeg) ≤ l3 → (wp_X8_sort_j84 n_sets v_count L7 L13 Q l1 l2 l3 l4 f_sets)) ∧ (¬ (f_sets ((l4 - l1) : Int32).toNatClampNeg) ≤ l3 → (vp_in (l4 - l1) n_sets ∧ ∀ x6 : Int32, x6 = (f_sets ((l4 - l1) : Int32).toNatClampNeg) → vp_in l4 n_sets ∧ ∀ g7 : Nat → Int32, g7 = upd f_sets (l4 : Int32).toNatClampNeg x6 → ∀ x8 : Int32, x8 = (l4 - l1) → (wp_X8_sort_h40 n_sets v_count L7 L13 Q z40) l1 l2 l3 x8 g7))))
def wp_X8_sort_h13 (n_sets : Nat) (v_count : Int32) (L7 : Int32 → (Nat → Int32) → Prop) (Q : (Nat → Int32) → Prop) : Nat → Int32 → Int32 → (Nat → Int32) → Prop
  | 0, _, _, _ => False
  | z13 + 1, l1, l2, f_sets => (v_count ≤ l2 → (wp_X8_sort_j98 n_sets v_count L7 Q l1 f_sets)) ∧ (¬ v_count ≤ l2 → (((Int32.ofNat n_sets) ≤ l2 → (wp_X8_sort_j98 n_sets v_count L7 Q l1 f_sets)) ∧ (¬ (Int32.ofNat n_sets) ≤ l2 → (vp_in l2 n_sets ∧ ∀ x11 : Int32, x11 = (f_sets (l2 : Int32).toNatClampNeg) → ∃ k12 : Nat, wp_X8_sort_h40 n_sets v_count L7 (wp_X8_sort_h13 n_sets v_count L7 Q z13) Q k12 l1 l2 x11 l2 f_sets))))
def wp_X8_sort_h7 (n_sets : Nat) (v_count : Int32) (Q : (Nat → Int32) → Prop) : Nat → Int32 → (Nat → Int32) → Prop
  | 0, _, _ => False
  | z7 + 1, l1, f_sets => (l1 ≤ 0 → (Q f_sets)) ∧ (¬ l1 ≤ 0 → (∃ k14 : Nat, wp_X8_sort_h13 n_sets v_count (wp_X8_sort_h7 n_sets v_count Q z7) Q k14 l1 l1 f_sets))
def wp_X8_sort (n_sets : Nat) (v_count : Int32) (f_sets : (Nat → Int32)) (Q : (Nat → Int32) → Prop) : Prop := (¬ (2 : Int32) = 0) ∧ ∀ x15 : Int32, x15 = (v_count / 2) → ∃ k16 : Nat, wp_X8_sort_h7 n_sets v_count Q k16 x15 f_sets
abbrev rmX8_sort : Room := { frames := 0, cells := 0, slots := 0, locals := 0 }
set_option maxRecDepth 20000 in
theorem iX8_sort_X8 : ∀ w ∈ wsX80, w ∈ wsX8_sort := by decide +kernel
set_option maxHeartbeats 4000000 in
set_option maxRecDepth 100000 in
theorem c_X8_sort (l : Launch) (dC : Nat → ClassId) (dI : Nat → Nat → Nat) (cI cZ : ClassId) (q0 q_sets q_struck : Nat) (sz : Nat) (n_sets : Nat) (v_struckCount : Int32) (v_count : Int32) (v_beats : Int32) (v_rhythm : Int32) (f_sets : (Nat → Int32))  (Q : (Nat → Int32) → Prop) (h : wp_X8_sort n_sets v_count f_sets Q) : Met l yX8_sort wsX8_sort (rmX8_sort) (va_Pc [.ref q0] (fun U => U.heap.size = sz ∧ va_P (dC, dI) vwCl [(q0, .inr (5, [.ref q_sets, .ref q_struck, .int v_struckCount, .int v_count, .int v_beats, .int v_rhythm])), (q_sets, .inl (cI, n_sets, .inl f_sets))] U.heap ∧ va_K (dC, dI) vwCl (tyZ cI cZ) U ∧ va_D (fun _ => True) [(q0, .inr (5, [.ref q_sets, .ref q_struck, .int v_struckCount, .int v_count, .int v_beats, .int v_rhythm])), (q_sets, .inl (cI, n_sets, .inl f_sets))] ∧ nW U)) (va_Qv (fun (u : (Nat → Int32)) => Q u) (fun (u : (Nat → Int32)) (t : State) => va_P (dC, dI) vwCl [(q0, .inr (5, [.ref q_sets, .ref q_struck, .int v_struckCount, .int v_count, .int v_beats, .int v_rhythm])), (q_sets, .inl (cI, n_sets, .inl u))] t.heap ∧ va_D (va_A [(q0, .inr (5, [.ref q_sets, .ref q_struck, .int v_struckCount, .int v_count, .int v_beats, .int v_rhythm])), (q_sets, .inl (cI, n_sets, .inl f_sets))] sz) [(q0, .inr (5, [.ref q_sets, .ref q_struck, .int v_struckCount, .int v_count, .int v_beats, .int v_rhythm])), (q_sets, .inl (cI, n_sets, .inl u))]) (va_A [(q0, .inr (5, [.ref q_sets, .ref q_struck, .int v_struckCount, .int v_count, .int v_beats, .int v_rhythm])), (q_sets, .inl (cI, n_sets, .inl f_sets))] sz)) 0 0 (va_A [(q0, .inr (5, [.ref q_sets, .ref q_struck, .int v_struckCount, .int v_count, .int v_beats, .int v_rhythm])), (q_sets, .inl (cI, n_sets, .inl f_sets))] sz) := by
  unfold wp_X8_sort at h
  refine Met.ofW (cc := cX8_sort) (maxL := 5) (ret := none) (by decide) rfl ?_
  intro p e s m args below meth c s₁ B hml hv
  obtain ⟨rfl, hsz, hP, hK, hD0, hN⟩ := hv
  have hx := B.exec
  have hb := B.bytes
  have hr := B.returns
  have hts := atoms_spec (ws := wsX8_sort) B.pre
  have hown : s.vm.findClass RX8 = some m.cls := findClass_of_methodNamed B.named
  have hlocks := B.notSynchronized
  subst hsz
  have hD := hD0.self (sz := s.heap.size)
  generalize hAe : va_A [(q0, .inr (5, [.ref q_sets, .ref q_struck, .int v_struckCount, .int v_count, .int v_beats, .int v_rhythm])), (q_sets, .inl (cI, n_sets, .inl f_sets))] s.heap.size = A at hD ⊢
  have hA : ∀ q : Nat, s.heap.size ≤ q → A q := fun q h => by rw [← hAe]; exact Or.inr h
  clear hAe
  have hS : va_S A s.heap s.heap [] := va_S.rf
  have w7 : ∀ (z7 : Nat) (l1 : Int32) (f_sets : (Nat → Int32)), wp_X8_sort_h7 n_sets v_count Q z7 l1 f_sets → ∀ (H : Heap) (locs : List Loc) (ls : Array Slot), va_P (dC, dI) vwCl [(q0, .inr (5, [.ref q_sets, .ref q_struck, .int v_struckCount, .int v_count, .int v_beats, .int v_rhythm])), (q_sets, .inl (cI, n_sets, .inl f_sets))] H → va_D A [(q0, .inr (5, [.ref q_sets, .ref q_struck, .int v_struckCount, .int v_count, .int v_beats, .int v_rhythm])), (q_sets, .inl (cI, n_sets, .inl f_sets))] → va_S A s.heap H locs → lv_has ls 5 [(0, .ref q0), (1, .int l1)] → W p l e (headSpec wsX8_sort (rmX8_sort)).room s m ([.ref q0] : List Value).toArray below meth c H locs 0 0 (MQ below (va_Qv (fun (u : (Nat → Int32)) => Q u) (fun (u : (Nat → Int32)) (t : State) => va_P (dC, dI) vwCl [(q0, .inr (5, [.ref q_sets, .ref q_struck, .int v_struckCount, .int v_count, .int v_beats, .int v_rhythm])), (q_sets, .inl (cI, n_sets, .inl u))] t.heap ∧ va_D A [(q0, .inr (5, [.ref q_sets, .ref q_struck, .int v_struckCount, .int v_count, .int v_beats, .int v_rhythm])), (q_sets, .inl (cI, n_sets, .inl u))]) A) ([.ref q0] : List Value).toArray s 0 0 A) (F0 m 7 ls []) := by
    intro z7
    induction z7 with
    | zero => intro l1 f_sets h; unfold wp_X8_sort_h7 at h; exact h.elim
    | succ z7 k7 =>
      have w113 : ∀ (s0 : Int32) (f_sets : (Nat → Int32)), wp_X8_sort_j113 n_sets v_count (wp_X8_sort_h7 n_sets v_count Q z7) Q s0 f_sets → ∀ (H : Heap) (locs : List Loc) (ls : Array Slot), va_P (dC, dI) vwCl [(q0, .inr (5, [.ref q_sets, .ref q_struck, .int v_struckCount, .int v_count, .int v_beats, .int v_rhythm])), (q_sets, .inl (cI, n_sets, .inl f_sets))] H → va_D A [(q0, .inr (5, [.ref q_sets, .ref q_struck, .int v_struckCount, .int v_count, .int v_beats, .int v_rhythm])), (q_sets, .inl (cI, n_sets, .inl f_sets))] → va_S A s.heap H locs → lv_has ls 5 [(0, .ref q0)] → W p l e (headSpec wsX8_sort (rmX8_sort)).room s m ([.ref q0] : List Value).toArray below meth c H locs 0 0 (MQ below (va_Qv (fun (u : (Nat → Int32)) => Q u) (fun (u : (Nat → Int32)) (t : State) => va_P (dC, dI) vwCl [(q0, .inr (5, [.ref q_sets, .ref q_struck, .int v_struckCount, .int v_count, .int v_beats, .int v_rhythm])), (q_sets, .inl (cI, n_sets, .inl u))] t.heap ∧ va_D A [(q0, .inr (5, [.ref q_sets, .ref q_struck, .int v_struckCount, .int v_count, .int v_beats, .int v_rhythm])), (q_sets, .inl (cI, n_sets, .inl u))]) A) ([.ref q0] : List Value).toArray s 0 0 A) (F0 m 113 ls [.int s0]) := by
        intro s0 f_sets h H locs ls hP hD hS hl
        unfold wp_X8_sort_j113 at h
        refine lv_istore_n (lv' := [(1, .int s0), (0, .ref q0)]) hx hb dX8_sort_113 rfl hl (by decide) rfl (fun ls hl => ?_)
        refine lv_goto (tgt := 7) hx hb dX8_sort_114 (by decide) ?_
        exact k7 s0 f_sets h H locs ls hP hD hS (lv_sub hl [1, 0] rfl)
      have w98 : ∀ (l1 : Int32) (f_sets : (Nat → Int32)), wp_X8_sort_j98 n_sets v_count (wp_X8_sort_h7 n_sets v_count Q z7) Q l1 f_sets → ∀ (H : Heap) (locs : List Loc) (ls : Array Slot), va_P (dC, dI) vwCl [(q0, .inr (5, [.ref q_sets, .ref q_struck, .int v_struckCount, .int v_count, .int v_beats, .int v_rhythm])), (q_sets, .inl (cI, n_sets, .inl f_sets))] H → va_D A [(q0, .inr (5, [.ref q_sets, .ref q_struck, .int v_struckCount, .int v_count, .int v_beats, .int v_rhythm])), (q_sets, .inl (cI, n_sets, .inl f_sets))] → va_S A s.heap H locs → lv_has ls 5 [(0, .ref q0), (1, .int l1)] → W p l e (headSpec wsX8_sort (rmX8_sort)).room s m ([.ref q0] : List Value).toArray below meth c H locs 0 0 (MQ below (va_Qv (fun (u : (Nat → Int32)) => Q u) (fun (u : (Nat → Int32)) (t : State) => va_P (dC, dI) vwCl [(q0, .inr (5, [.ref q_sets, .ref q_struck, .int v_struckCount, .int v_count, .int v_beats, .int v_rhythm])), (q_sets, .inl (cI, n_sets, .inl u))] t.heap ∧ va_D A [(q0, .inr (5, [.ref q_sets, .ref q_struck, .int v_struckCount, .int v_count, .int v_beats, .int v_rhythm])), (q_sets, .inl (cI, n_sets, .inl u))]) A) ([.ref q0] : List Value).toArray s 0 0 A) (F0 m 98 ls []) := by
        intro l1 f_sets h H locs ls hP hD hS hl
        unfold wp_X8_sort_j98 at h
        refine lv_iload_n hx hb dX8_sort_98 rfl (lv_at hl 1 rfl) ?_
        refine lv_iconst (v := 2) hx hb dX8_sort_99 (by decide) ?_
        refine lv_icmp_ne (tgt := 107) hx hb dX8_sort_100 (by decide) (fun c1 => ?_) (fun c1 => ?_)
        · replace h := h.1 c1
          refine lv_iload_n hx hb dX8_sort_107 rfl (lv_at hl 1 rfl) ?_
          refine lv_iconst (v := 5) hx hb dX8_sort_108 (by decide) ?_
          refine lv_imul hx hb dX8_sort_109 ?_
          refine lv_bipush (v := 11) hx hb dX8_sort_110 (by decide) ?_
          refine lv_idiv hx hb dX8_sort_112 h.1 ?_
          replace h := h.2
          exact w113 ((l1 * 5) / 11) f_sets h H locs ls hP hD hS (lv_sub hl [0] rfl)
        · replace h := h.2 c1
          refine lv_iconst (v := 1) hx hb dX8_sort_103 (by decide) ?_
          refine lv_goto (tgt := 113) hx hb dX8_sort_104 (by decide) ?_
          exact w113 1 f_sets h H locs ls hP hD hS (lv_sub hl [0] rfl)
      have w13 : ∀ (z13 : Nat) (l1 : Int32) (l2 : Int32) (f_sets : (Nat → Int32)), wp_X8_sort_h13 n_sets v_count (wp_X8_sort_h7 n_sets v_count Q z7) Q z13 l1 l2 f_sets → ∀ (H : Heap) (locs : List Loc) (ls : Array Slot), va_P (dC, dI) vwCl [(q0, .inr (5, [.ref q_sets, .ref q_struck, .int v_struckCount, .int v_count, .int v_beats, .int v_rhythm])), (q_sets, .inl (cI, n_sets, .inl f_sets))] H → va_D A [(q0, .inr (5, [.ref q_sets, .ref q_struck, .int v_struckCount, .int v_count, .int v_beats, .int v_rhythm])), (q_sets, .inl (cI, n_sets, .inl f_sets))] → va_S A s.heap H locs → lv_has ls 5 [(0, .ref q0), (1, .int l1), (2, .int l2)] → W p l e (headSpec wsX8_sort (rmX8_sort)).room s m ([.ref q0] : List Value).toArray below meth c H locs 0 0 (MQ below (va_Qv (fun (u : (Nat → Int32)) => Q u) (fun (u : (Nat → Int32)) (t : State) => va_P (dC, dI) vwCl [(q0, .inr (5, [.ref q_sets, .ref q_struck, .int v_struckCount, .int v_count, .int v_beats, .int v_rhythm])), (q_sets, .inl (cI, n_sets, .inl u))] t.heap ∧ va_D A [(q0, .inr (5, [.ref q_sets, .ref q_struck, .int v_struckCount, .int v_count, .int v_beats, .int v_rhythm])), (q_sets, .inl (cI, n_sets, .inl u))]) A) ([.ref q0] : List Value).toArray s 0 0 A) (F0 m 13 ls []) := by
        intro z13
        induction z13 with
        | zero => intro l1 l2 f_sets h; unfold wp_X8_sort_h13 at h; exact h.elim
        | succ z13 k13 =>
          have w84 : ∀ (l1 : Int32) (l2 : Int32) (l3 : Int32) (l4 : Int32) (f_sets : (Nat → Int32)), wp_X8_sort_j84 n_sets v_count (wp_X8_sort_h7 n_sets v_count Q z7) (wp_X8_sort_h13 n_sets v_count (wp_X8_sort_h7 n_sets v_count Q z7) Q z13) Q l1 l2 l3 l4 f_sets → ∀ (H : Heap) (locs : List Loc) (ls : Array Slot), va_P (dC, dI) vwCl [(q0, .inr (5, [.ref q_sets, .ref q_struck, .int v_struckCount, .int v_count, .int v_beats, .int v_rhythm])), (q_sets, .inl (cI, n_sets, .inl f_sets))] H → va_D A [(q0, .inr (5, [.ref q_sets, .ref q_struck, .int v_struckCount, .int v_count, .int v_beats, .int v_rhythm])), (q_sets, .inl (cI, n_sets, .inl f_sets))] → va_S A s.heap H locs → lv_has ls 5 [(0, .ref q0), (1, .int l1), (2, .int l2), (3, .int l3), (4, .int l4)] → W p l e (headSpec wsX8_sort (rmX8_sort)).room s m ([.ref q0] : List Value).toArray below meth c H locs 0 0 (MQ below (va_Qv (fun (u : (Nat → Int32)) => Q u) (fun (u : (Nat → Int32)) (t : State) => va_P (dC, dI) vwCl [(q0, .inr (5, [.ref q_sets, .ref q_struck, .int v_struckCount, .int v_count, .int v_beats, .int v_rhythm])), (q_sets, .inl (cI, n_sets, .inl u))] t.heap ∧ va_D A [(q0, .inr (5, [.ref q_sets, .ref q_struck, .int v_struckCount, .int v_count, .int v_beats, .int v_rhythm])), (q_sets, .inl (cI, n_sets, .inl u))]) A) ([.ref q0] : List Value).toArray s 0 0 A) (F0 m 84 ls []) := by
            intro l1 l2 l3 l4 f_sets h H locs ls hP hD hS hl
            unfold wp_X8_sort_j84 at h
            refine lv_aload_n hx hb dX8_sort_84 rfl (lv_at hl 0 rfl) ?_
            refine va_get (D := (dC, dI)) (ci := 5) (v := .ref q_sets) (C := RX8) (T := TX8) (N := 6) hx hb hts iX8_sort_X8 hown hK hP 0 rfl rfl 0 (by decide) (hts (.fieldLink RX8 15 "TilingBeats$Tilings" "sets" "[I") (by decide +kernel)) (fun _ h9 => h9) rfl dX8_sort_85 ?_
            refine lv_iload hx hb dX8_sort_88 (lv_at hl 4 rfl) ?_
            refine lv_iload_n hx hb dX8_sort_90 rfl (lv_at hl 3 rfl) ?_
            refine va_iast (D := (dC, dI)) hx hb hK hP hD hS 1 0 rfl rfl h.1 dX8_sort_91 (fun H locs hP hD hS => ?_)
            obtain ⟨g2, eg2⟩ : ∃ y : Nat → Int32, y = upd f_sets (l4 : Int32).toNatClampNeg l3 := ⟨_, rfl⟩
            replace h := h.2 g2 eg2
            rw [← eg2] at hP hD
            have hP : va_P (dC, dI) vwCl [(q0, .inr (5, [.ref q_sets, .ref q_struck, .int v_struckCount, .int v_count, .int v_beats, .int v_rhythm])), (q_sets, .inl (cI, n_sets, .inl g2))] H := hP
            have hD : va_D A [(q0, .inr (5, [.ref q_sets, .ref q_struck, .int v_struckCount, .int v_count, .int v_beats, .int v_rhythm])), (q_sets, .inl (cI, n_sets, .inl g2))] := hD
            obtain ⟨x3, ex3⟩ : ∃ y : Int32, y = l2 + 1 := ⟨_, rfl⟩
            replace h := h x3 ex3
            refine lv_iinc (v := x3) (lv' := [(2, .int x3), (0, .ref q0), (1, .int l1), (3, .int l3), (4, .int l4)]) hx hb dX8_sort_92 hl (k := 2) rfl (by rw [ex3]; rfl) (by decide) rfl (fun ls hl => ?_)
            refine lv_goto (tgt := 13) hx hb dX8_sort_95 (by decide) ?_
            exact k13 l1 x3 g2 h H locs ls hP hD hS (lv_sub hl [1, 2, 0] rfl)
          have w40 : ∀ (z40 : Nat) (l1 : Int32) (l2 : Int32) (l3 : Int32) (l4 : Int32) (f_sets : (Nat → Int32)), wp_X8_sort_h40 n_sets v_count (wp_X8_sort_h7 n_sets v_count Q z7) (wp_X8_sort_h13 n_sets v_count (wp_X8_sort_h7 n_sets v_count Q z7) Q z13) Q z40 l1 l2 l3 l4 f_sets → ∀ (H : Heap) (locs : List Loc) (ls : Array Slot), va_P (dC, dI) vwCl [(q0, .inr (5, [.ref q_sets, .ref q_struck, .int v_struckCount, .int v_count, .int v_beats, .int v_rhythm])), (q_sets, .inl (cI, n_sets, .inl f_sets))] H → va_D A [(q0, .inr (5, [.ref q_sets, .ref q_struck, .int v_struckCount, .int v_count, .int v_beats, .int v_rhythm])), (q_sets, .inl (cI, n_sets, .inl f_sets))] → va_S A s.heap H locs → lv_has ls 5 [(0, .ref q0), (1, .int l1), (2, .int l2), (3, .int l3), (4, .int l4)] → W p l e (headSpec wsX8_sort (rmX8_sort)).room s m ([.ref q0] : List Value).toArray below meth c H locs 0 0 (MQ below (va_Qv (fun (u : (Nat → Int32)) => Q u) (fun (u : (Nat → Int32)) (t : State) => va_P (dC, dI) vwCl [(q0, .inr (5, [.ref q_sets, .ref q_struck, .int v_struckCount, .int v_count, .int v_beats, .int v_rhythm])), (q_sets, .inl (cI, n_sets, .inl u))] t.heap ∧ va_D A [(q0, .inr (5, [.ref q_sets, .ref q_struck, .int v_struckCount, .int v_count, .int v_beats, .int v_rhythm])), (q_sets, .inl (cI, n_sets, .inl u))]) A) ([.ref q0] : List Value).toArray s 0 0 A) (F0 m 40 ls []) := by
            intro z40
            induction z40 with
            | zero => intro l1 l2 l3 l4 f_sets h; unfold wp_X8_sort_h40 at h; exact h.elim
            | succ z40 k40 =>
              intro l1 l2 l3 l4 f_sets h H locs ls hP hD hS hl
              unfold wp_X8_sort_h40 at h
              refine lv_iload hx hb dX8_sort_40 (lv_at hl 4 rfl) ?_
              refine lv_iload_n hx hb dX8_sort_42 rfl (lv_at hl 1 rfl) ?_
              refine lv_icmp_lt (tgt := 84) hx hb dX8_sort_43 (by decide) (fun c4 => ?_) (fun c4 => ?_)
              · replace h := h.1 c4
                exact w84 l1 l2 l3 l4 f_sets h H locs ls hP hD hS (lv_sub hl [0, 1, 2, 3, 4] rfl)
              · replace h := h.2 c4
                refine lv_aload_n hx hb dX8_sort_46 rfl (lv_at hl 0 rfl) ?_
                refine va_get (D := (dC, dI)) (ci := 5) (v := .ref q_sets) (C := RX8) (T := TX8) (N := 6) hx hb hts iX8_sort_X8 hown hK hP 0 rfl rfl 0 (by decide) (hts (.fieldLink RX8 15 "TilingBeats$Tilings" "sets" "[I") (by decide +kernel)) (fun _ h9 => h9) rfl dX8_sort_47 ?_
                refine lv_iload hx hb dX8_sort_50 (lv_at hl 4 rfl) ?_
                refine lv_iload_n hx hb dX8_sort_52 rfl (lv_at hl 1 rfl) ?_
                refine lv_isub hx hb dX8_sort_53 ?_
                refine va_iald (D := (dC, dI)) hx hb hK hP 1 0 rfl rfl h.1 dX8_sort_54 ?_
                replace h := h.2
                refine lv_iload_n hx hb dX8_sort_55 rfl (lv_at hl 3 rfl) ?_
                refine lv_icmp_le (tgt := 84) hx hb dX8_sort_56 (by decide) (fun c5 => ?_) (fun c5 => ?_)
                · replace h := h.1 c5
                  exact w84 l1 l2 l3 l4 f_sets h H locs ls hP hD hS (lv_sub hl [0, 1, 2, 3, 4] rfl)
                · replace h := h.2 c5
                  refine lv_aload_n hx hb dX8_sort_59 rfl (lv_at hl 0 rfl) ?_
                  refine va_get (D := (dC, dI)) (ci := 5) (v := .ref q_sets) (C := RX8) (T := TX8) (N := 6) hx hb hts iX8_sort_X8 hown hK hP 0 rfl rfl 0 (by decide) (hts (.fieldLink RX8 15 "TilingBeats$Tilings" "sets" "[I") (by decide +kernel)) (fun _ h9 => h9) rfl dX8_sort_60 ?_
                  refine lv_iload hx hb dX8_sort_63 (lv_at hl 4 rfl) ?_
                  refine lv_aload_n hx hb dX8_sort_65 rfl (lv_at hl 0 rfl) ?_
                  refine va_get (D := (dC, dI)) (ci := 5) (v := .ref q_sets) (C := RX8) (T := TX8) (N := 6) hx hb hts iX8_sort_X8 hown hK hP 0 rfl rfl 0 (by decide) (hts (.fieldLink RX8 15 "TilingBeats$Tilings" "sets" "[I") (by decide +kernel)) (fun _ h9 => h9) rfl dX8_sort_66 ?_
                  refine lv_iload hx hb dX8_sort_69 (lv_at hl 4 rfl) ?_
                  refine lv_iload_n hx hb dX8_sort_71 rfl (lv_at hl 1 rfl) ?_
                  refine lv_isub hx hb dX8_sort_72 ?_
                  refine va_iald (D := (dC, dI)) hx hb hK hP 1 0 rfl rfl h.1 dX8_sort_73 ?_
                  replace h := h.2
                  refine lv_topi (fun x6 ex6 => ?_)
                  replace h := h x6 ex6
                  refine va_iast (D := (dC, dI)) hx hb hK hP hD hS 1 0 rfl rfl h.1 dX8_sort_74 (fun H locs hP hD hS => ?_)
                  obtain ⟨g7, eg7⟩ : ∃ y : Nat → Int32, y = upd f_sets (l4 : Int32).toNatClampNeg x6 := ⟨_, rfl⟩
                  replace h := h.2 g7 eg7
                  rw [← eg7] at hP hD
                  have hP : va_P (dC, dI) vwCl [(q0, .inr (5, [.ref q_sets, .ref q_struck, .int v_struckCount, .int v_count, .int v_beats, .int v_rhythm])), (q_sets, .inl (cI, n_sets, .inl g7))] H := hP
                  have hD : va_D A [(q0, .inr (5, [.ref q_sets, .ref q_struck, .int v_struckCount, .int v_count, .int v_beats, .int v_rhythm])), (q_sets, .inl (cI, n_sets, .inl g7))] := hD
                  refine lv_iload hx hb dX8_sort_75 (lv_at hl 4 rfl) ?_
                  refine lv_iload_n hx hb dX8_sort_77 rfl (lv_at hl 1 rfl) ?_
                  refine lv_isub hx hb dX8_sort_78 ?_
                  refine lv_topi (fun x8 ex8 => ?_)
                  replace h := h x8 ex8
                  refine lv_istore (lv' := [(4, .int x8), (0, .ref q0), (1, .int l1), (2, .int l2), (3, .int l3)]) hx hb dX8_sort_79 hl (by decide) rfl (fun ls hl => ?_)
                  refine lv_goto (tgt := 40) hx hb dX8_sort_81 (by decide) ?_
                  exact k40 l1 l2 l3 x8 g7 h H locs ls hP hD hS (lv_sub hl [1, 2, 3, 4, 0] rfl)
          intro l1 l2 f_sets h H locs ls hP hD hS hl
          unfold wp_X8_sort_h13 at h
          refine lv_iload_n hx hb dX8_sort_13 rfl (lv_at hl 2 rfl) ?_
          refine lv_aload_n hx hb dX8_sort_14 rfl (lv_at hl 0 rfl) ?_
          refine va_get (D := (dC, dI)) (ci := 5) (v := .int v_count) (C := RX8) (T := TX8) (N := 6) hx hb hts iX8_sort_X8 hown hK hP 0 rfl rfl 3 (by decide) (hts (.fieldLink RX8 28 "TilingBeats$Tilings" "count" "I") (by decide +kernel)) (fun _ h9 => h9) rfl dX8_sort_15 ?_
          refine lv_icmp_ge (tgt := 98) hx hb dX8_sort_18 (by decide) (fun c9 => ?_) (fun c9 => ?_)
          · replace h := h.1 c9
            exact w98 l1 f_sets h H locs ls hP hD hS (lv_sub hl [0, 1] rfl)
          · replace h := h.2 c9
            refine lv_iload_n hx hb dX8_sort_21 rfl (lv_at hl 2 rfl) ?_
            refine lv_aload_n hx hb dX8_sort_22 rfl (lv_at hl 0 rfl) ?_
            refine va_get (D := (dC, dI)) (ci := 5) (v := .ref q_sets) (C := RX8) (T := TX8) (N := 6) hx hb hts iX8_sort_X8 hown hK hP 0 rfl rfl 0 (by decide) (hts (.fieldLink RX8 15 "TilingBeats$Tilings" "sets" "[I") (by decide +kernel)) (fun _ h9 => h9) rfl dX8_sort_23 ?_
            refine va_alen (D := (dC, dI)) (v := (Int32.ofNat n_sets)) hx hb hK hP 1 0 rfl rfl rfl dX8_sort_26 ?_
            refine lv_icmp_ge (tgt := 98) hx hb dX8_sort_27 (by decide) (fun c10 => ?_) (fun c10 => ?_)
            · replace h := h.1 c10
              exact w98 l1 f_sets h H locs ls hP hD hS (lv_sub hl [0, 1] rfl)
            · replace h := h.2 c10
              refine lv_aload_n hx hb dX8_sort_30 rfl (lv_at hl 0 rfl) ?_
              refine va_get (D := (dC, dI)) (ci := 5) (v := .ref q_sets) (C := RX8) (T := TX8) (N := 6) hx hb hts iX8_sort_X8 hown hK hP 0 rfl rfl 0 (by decide) (hts (.fieldLink RX8 15 "TilingBeats$Tilings" "sets" "[I") (by decide +kernel)) (fun _ h9 => h9) rfl dX8_sort_31 ?_
              refine lv_iload_n hx hb dX8_sort_34 rfl (lv_at hl 2 rfl) ?_
              refine va_iald (D := (dC, dI)) hx hb hK hP 1 0 rfl rfl h.1 dX8_sort_35 ?_
              replace h := h.2
              refine lv_topi (fun x11 ex11 => ?_)
              replace h := h x11 ex11
              refine lv_istore_n (lv' := [(3, .int x11), (0, .ref q0), (1, .int l1), (2, .int l2)]) hx hb dX8_sort_36 rfl hl (by decide) rfl (fun ls hl => ?_)
              refine lv_iload_n hx hb dX8_sort_37 rfl (lv_at hl 3 rfl) ?_
              refine lv_istore (lv' := [(4, .int l2), (3, .int x11), (0, .ref q0), (1, .int l1), (2, .int l2)]) hx hb dX8_sort_38 hl (by decide) rfl (fun ls hl => ?_)
              obtain ⟨k12, h⟩ := h
              exact w40 k12 l1 l2 x11 l2 f_sets h H locs ls hP hD hS (lv_sub hl [2, 3, 4, 1, 0] rfl)
      intro l1 f_sets h H locs ls hP hD hS hl
      unfold wp_X8_sort_h7 at h
      refine lv_iload_n hx hb dX8_sort_7 rfl (lv_at hl 1 rfl) ?_
      refine lv_if_le (tgt := 117) hx hb dX8_sort_8 (by decide) (fun c13 => ?_) (fun c13 => ?_)
      · replace h := h.1 c13
        exact W.vret hx hb hr (fun t ht hW => ⟨⟨f_sets, rfl, h, by rw [ht]; exact hP, hD⟩, hS.F ht⟩) hS.2.2 dX8_sort_117
      · replace h := h.2 c13
        refine lv_iload_n hx hb dX8_sort_11 rfl (lv_at hl 1 rfl) ?_
        refine lv_istore_n (lv' := [(2, .int l1), (0, .ref q0), (1, .int l1)]) hx hb dX8_sort_12 rfl hl (by decide) rfl (fun ls hl => ?_)
        obtain ⟨k14, h⟩ := h
        exact w13 k14 l1 l1 f_sets h H locs ls hP hD hS (lv_sub hl [1, 2, 0] rfl)
  have hl := lv_entry ([.ref q0]) (n := 5) (Nat.le_of_ble_eq_true rfl)
  rw [lg_entry_eq]
  generalize (lg_sl ([.ref q0]) ++ List.replicate (5 - (lg_sl ([.ref q0])).length) Slot.unset).toArray = ls at hl ⊢
  have hl : lv_has ls 5 [(0, .ref q0)] := hl
  refine lv_aload_n hx hb dX8_sort_0 rfl (lv_at hl 0 rfl) ?_
  refine va_get (D := (dC, dI)) (ci := 5) (v := .int v_count) (C := RX8) (T := TX8) (N := 6) hx hb hts iX8_sort_X8 hown hK hP 0 rfl rfl 3 (by decide) (hts (.fieldLink RX8 28 "TilingBeats$Tilings" "count" "I") (by decide +kernel)) (fun _ h9 => h9) rfl dX8_sort_1 ?_
  refine lv_iconst (v := 2) hx hb dX8_sort_4 (by decide) ?_
  refine lv_idiv hx hb dX8_sort_5 h.1 ?_
  replace h := h.2
  refine lv_topi (fun x15 ex15 => ?_)
  replace h := h x15 ex15
  refine lv_istore_n (lv' := [(1, .int x15), (0, .ref q0)]) hx hb dX8_sort_6 rfl hl (by decide) rfl (fun ls hl => ?_)
  obtain ⟨k16, h⟩ := h
  exact w7 k16 x15 f_sets h s.heap [] ls hP hD hS (lv_sub hl [1, 0] rfl)

def wp_X8_of_j71 (n_sets : Nat) (Q : Int32 → Int32 → Int32 → Int32 → Int32 → (Nat → Int32) → (Nat → Int32) → Prop) (v_struckCount : Int32) (v_count : Int32) (v_beats : Int32) (v_rhythm : Int32) (f_sets : (Nat → Int32)) (f_struck : (Nat → Int32)) : Prop := Q v_count v_struckCount v_count v_beats v_rhythm f_sets f_struck
def wp_X8_of_j21 (n_sets : Nat) (Q : Int32 → Int32 → Int32 → Int32 → Int32 → (Nat → Int32) → (Nat → Int32) → Prop) (l1 : Int32) (l2 : Int32) (v_struckCount : Int32) (v_count : Int32) (v_beats : Int32) (v_rhythm : Int32) (f_sets : (Nat → Int32)) (f_struck : (Nat → Int32)) : Prop := wp_J6_bitCount_0f7a4 l2 fun (r1 : Int32) => (r1 ≤ 0 → (wp_X8_of_j71 n_sets Q v_struckCount 0 l1 l2 f_sets f_struck)) ∧ (¬ r1 ≤ 0 → (wp_X6_leftOver l1 r1 fun (r3 : Int32) => (¬ r3 = 0 → (wp_X8_of_j71 n_sets Q v_struckCount 0 l1 l2 f_sets f_struck)) ∧ (r3 = 0 → (wp_X8_listStruck v_struckCount l1 l2 f_struck fun (u5 : Int32) (u6 : (Nat → Int32)) => wp_X8_cover 26 n_sets u5 0 l1 l2 f_sets u6 l2 1 0 fun (u7 : Int32) (u8 : (Nat → Int32)) => wp_X8_sort n_sets u7 u8 fun (u9 : (Nat → Int32)) => wp_X8_of_j71 n_sets Q u5 u7 l1 l2 u9 u6))))
def wp_X8_of (n_sets : Nat) (v_struckCount : Int32) (v_count : Int32) (v_beats : Int32) (v_rhythm : Int32) (f_sets : (Nat → Int32)) (f_struck : (Nat → Int32)) (p1 : Int32) (p2 : Int32) (Q : Int32 → Int32 → Int32 → Int32 → Int32 → (Nat → Int32) → (Nat → Int32) → Prop) : Prop := (¬ p1 = v_beats → (wp_X8_of_j21 n_sets Q p1 p2 v_struckCount v_count v_beats v_rhythm f_sets f_struck)) ∧ (p1 = v_beats → ((¬ p2 = v_rhythm → (wp_X8_of_j21 n_sets Q p1 p2 v_struckCount v_count v_beats v_rhythm f_sets f_struck)) ∧ (p2 = v_rhythm → (Q v_count v_struckCount v_count v_beats v_rhythm f_sets f_struck))))
abbrev rmX8_of : Room := { frames := 29, cells := 0, slots := 0, locals := 801 }
set_option maxRecDepth 20000 in
theorem iX8_of_X8 : ∀ w ∈ wsX80, w ∈ wsX8_of := by decide +kernel
set_option maxHeartbeats 4000000 in
set_option maxRecDepth 100000 in
theorem c_X8_of (l : Launch) (dC : Nat → ClassId) (dI : Nat → Nat → Nat) (cI cZ : ClassId) (q0 q_sets q_struck : Nat) (sz : Nat) (n_sets : Nat) (v_struckCount : Int32) (v_count : Int32) (v_beats : Int32) (v_rhythm : Int32) (f_sets : (Nat → Int32)) (f_struck : (Nat → Int32)) (p1 : Int32) (p2 : Int32) (Q : Int32 → Int32 → Int32 → Int32 → Int32 → (Nat → Int32) → (Nat → Int32) → Prop) (h : wp_X8_of n_sets v_struckCount v_count v_beats v_rhythm f_sets f_struck p1 p2 Q) : Met l yX8_of wsX8_of (rmX8_of) (va_Pc [.ref q0, .int p1, .int p2] (fun U => U.heap.size = sz ∧ va_P (dC, dI) vwCl [(q0, .inr (5, [.ref q_sets, .ref q_struck, .int v_struckCount, .int v_count, .int v_beats, .int v_rhythm])), (q_sets, .inl (cI, n_sets, .inl f_sets)), (q_struck, .inl (cI, 24, .inl f_struck))] U.heap ∧ va_K (dC, dI) vwCl (tyZ cI cZ) U ∧ va_D (fun _ => True) [(q0, .inr (5, [.ref q_sets, .ref q_struck, .int v_struckCount, .int v_count, .int v_beats, .int v_rhythm])), (q_sets, .inl (cI, n_sets, .inl f_sets)), (q_struck, .inl (cI, 24, .inl f_struck))] ∧ nW U)) (va_Qi (fun (r : Int32) (u : Int32 × Int32 × Int32 × Int32 × (Nat → Int32) × (Nat → Int32)) => Q r u.1 u.2.1 u.2.2.1 u.2.2.2.1 u.2.2.2.2.1 u.2.2.2.2.2) (fun (u : Int32 × Int32 × Int32 × Int32 × (Nat → Int32) × (Nat → Int32)) (t : State) => va_P (dC, dI) vwCl [(q0, .inr (5, [.ref q_sets, .ref q_struck, .int u.1, .int u.2.1, .int u.2.2.1, .int u.2.2.2.1])), (q_sets, .inl (cI, n_sets, .inl u.2.2.2.2.1)), (q_struck, .inl (cI, 24, .inl u.2.2.2.2.2))] t.heap ∧ va_D (va_A [(q0, .inr (5, [.ref q_sets, .ref q_struck, .int v_struckCount, .int v_count, .int v_beats, .int v_rhythm])), (q_sets, .inl (cI, n_sets, .inl f_sets)), (q_struck, .inl (cI, 24, .inl f_struck))] sz) [(q0, .inr (5, [.ref q_sets, .ref q_struck, .int u.1, .int u.2.1, .int u.2.2.1, .int u.2.2.2.1])), (q_sets, .inl (cI, n_sets, .inl u.2.2.2.2.1)), (q_struck, .inl (cI, 24, .inl u.2.2.2.2.2))]) (va_A [(q0, .inr (5, [.ref q_sets, .ref q_struck, .int v_struckCount, .int v_count, .int v_beats, .int v_rhythm])), (q_sets, .inl (cI, n_sets, .inl f_sets)), (q_struck, .inl (cI, 24, .inl f_struck))] sz)) 0 0 (va_A [(q0, .inr (5, [.ref q_sets, .ref q_struck, .int v_struckCount, .int v_count, .int v_beats, .int v_rhythm])), (q_sets, .inl (cI, n_sets, .inl f_sets)), (q_struck, .inl (cI, 24, .inl f_struck))] sz) := by
  unfold wp_X8_of at h
  refine Met.ofW (cc := cX8_of) (maxL := 4) (ret := (some .int)) (by decide) rfl ?_
  intro p e s m args below meth c s₁ B hml hv
  obtain ⟨rfl, hsz, hP, hK, hD0, hN⟩ := hv
  have hx := B.exec
  have hb := B.bytes
  have hr := B.returns
  have hts := atoms_spec (ws := wsX8_of) B.pre
  have hown : s.vm.findClass RX8 = some m.cls := findClass_of_methodNamed B.named
  have hlocks := B.notSynchronized
  subst hsz
  have hD := hD0.self (sz := s.heap.size)
  generalize hAe : va_A [(q0, .inr (5, [.ref q_sets, .ref q_struck, .int v_struckCount, .int v_count, .int v_beats, .int v_rhythm])), (q_sets, .inl (cI, n_sets, .inl f_sets)), (q_struck, .inl (cI, 24, .inl f_struck))] s.heap.size = A at hD ⊢
  have hA : ∀ q : Nat, s.heap.size ≤ q → A q := fun q h => by rw [← hAe]; exact Or.inr h
  clear hAe
  have hS : va_S A s.heap s.heap [] := va_S.rf
  have w71 : ∀ (v_struckCount : Int32) (v_count : Int32) (v_beats : Int32) (v_rhythm : Int32) (f_sets : (Nat → Int32)) (f_struck : (Nat → Int32)), wp_X8_of_j71 n_sets Q v_struckCount v_count v_beats v_rhythm f_sets f_struck → ∀ (H : Heap) (locs : List Loc) (ls : Array Slot), va_P (dC, dI) vwCl [(q0, .inr (5, [.ref q_sets, .ref q_struck, .int v_struckCount, .int v_count, .int v_beats, .int v_rhythm])), (q_sets, .inl (cI, n_sets, .inl f_sets)), (q_struck, .inl (cI, 24, .inl f_struck))] H → va_D A [(q0, .inr (5, [.ref q_sets, .ref q_struck, .int v_struckCount, .int v_count, .int v_beats, .int v_rhythm])), (q_sets, .inl (cI, n_sets, .inl f_sets)), (q_struck, .inl (cI, 24, .inl f_struck))] → va_S A s.heap H locs → lv_has ls 4 [(0, .ref q0)] → W p l e (headSpec wsX8_of (rmX8_of)).room s m ([.ref q0, .int p1, .int p2] : List Value).toArray below meth c H locs 0 0 (MQ below (va_Qi (fun (r : Int32) (u : Int32 × Int32 × Int32 × Int32 × (Nat → Int32) × (Nat → Int32)) => Q r u.1 u.2.1 u.2.2.1 u.2.2.2.1 u.2.2.2.2.1 u.2.2.2.2.2) (fun (u : Int32 × Int32 × Int32 × Int32 × (Nat → Int32) × (Nat → Int32)) (t : State) => va_P (dC, dI) vwCl [(q0, .inr (5, [.ref q_sets, .ref q_struck, .int u.1, .int u.2.1, .int u.2.2.1, .int u.2.2.2.1])), (q_sets, .inl (cI, n_sets, .inl u.2.2.2.2.1)), (q_struck, .inl (cI, 24, .inl u.2.2.2.2.2))] t.heap ∧ va_D A [(q0, .inr (5, [.ref q_sets, .ref q_struck, .int u.1, .int u.2.1, .int u.2.2.1, .int u.2.2.2.1])), (q_sets, .inl (cI, n_sets, .inl u.2.2.2.2.1)), (q_struck, .inl (cI, 24, .inl u.2.2.2.2.2))]) A) ([.ref q0, .int p1, .int p2] : List Value).toArray s 0 0 A) (F0 m 71 ls []) := by
    intro v_struckCount v_count v_beats v_rhythm f_sets f_struck h H locs ls hP hD hS hl
    unfold wp_X8_of_j71 at h
    refine lv_aload_n hx hb dX8_of_71 rfl (lv_at hl 0 rfl) ?_
    refine va_get (D := (dC, dI)) (ci := 5) (v := .int v_count) (C := RX8) (T := TX8) (N := 6) hx hb hts iX8_of_X8 hown hK hP 0 rfl rfl 3 (by decide) (hts (.fieldLink RX8 28 "TilingBeats$Tilings" "count" "I") (by decide +kernel)) (fun _ h9 => h9) rfl dX8_of_72 ?_
    exact W.iret (v := v_count) hx hb hr (fun t ht hW => ⟨⟨_, (v_struckCount, v_count, v_beats, v_rhythm, f_sets, f_struck), rfl, h, by rw [ht]; exact hP, hD⟩, hS.F ht⟩) hS.2.2 dX8_of_75
  have w21 : ∀ (l1 : Int32) (l2 : Int32) (v_struckCount : Int32) (v_count : Int32) (v_beats : Int32) (v_rhythm : Int32) (f_sets : (Nat → Int32)) (f_struck : (Nat → Int32)), wp_X8_of_j21 n_sets Q l1 l2 v_struckCount v_count v_beats v_rhythm f_sets f_struck → ∀ (H : Heap) (locs : List Loc) (ls : Array Slot), va_P (dC, dI) vwCl [(q0, .inr (5, [.ref q_sets, .ref q_struck, .int v_struckCount, .int v_count, .int v_beats, .int v_rhythm])), (q_sets, .inl (cI, n_sets, .inl f_sets)), (q_struck, .inl (cI, 24, .inl f_struck))] H → va_D A [(q0, .inr (5, [.ref q_sets, .ref q_struck, .int v_struckCount, .int v_count, .int v_beats, .int v_rhythm])), (q_sets, .inl (cI, n_sets, .inl f_sets)), (q_struck, .inl (cI, 24, .inl f_struck))] → va_S A s.heap H locs → lv_has ls 4 [(0, .ref q0), (1, .int l1), (2, .int l2)] → W p l e (headSpec wsX8_of (rmX8_of)).room s m ([.ref q0, .int p1, .int p2] : List Value).toArray below meth c H locs 0 0 (MQ below (va_Qi (fun (r : Int32) (u : Int32 × Int32 × Int32 × Int32 × (Nat → Int32) × (Nat → Int32)) => Q r u.1 u.2.1 u.2.2.1 u.2.2.2.1 u.2.2.2.2.1 u.2.2.2.2.2) (fun (u : Int32 × Int32 × Int32 × Int32 × (Nat → Int32) × (Nat → Int32)) (t : State) => va_P (dC, dI) vwCl [(q0, .inr (5, [.ref q_sets, .ref q_struck, .int u.1, .int u.2.1, .int u.2.2.1, .int u.2.2.2.1])), (q_sets, .inl (cI, n_sets, .inl u.2.2.2.2.1)), (q_struck, .inl (cI, 24, .inl u.2.2.2.2.2))] t.heap ∧ va_D A [(q0, .inr (5, [.ref q_sets, .ref q_struck, .int u.1, .int u.2.1, .int u.2.2.1, .int u.2.2.2.1])), (q_sets, .inl (cI, n_sets, .inl u.2.2.2.2.1)), (q_struck, .inl (cI, 24, .inl u.2.2.2.2.2))]) A) ([.ref q0, .int p1, .int p2] : List Value).toArray s 0 0 A) (F0 m 21 ls []) := by
    intro l1 l2 v_struckCount v_count v_beats v_rhythm f_sets f_struck h H locs ls hP hD hS hl
    unfold wp_X8_of_j21 at h
    refine lv_aload_n hx hb dX8_of_21 rfl (lv_at hl 0 rfl) ?_
    refine lv_iload_n hx hb dX8_of_22 rfl (lv_at hl 1 rfl) ?_
    refine va_put (D := (dC, dI)) (ci := 5) (v := .int l1) (ty := .int) (C := RX8) (T := TX8) (N := 6) hx hb hts iX8_of_X8 tyX8 tyX8_ok nmX8 hown hK hP hD hS 0 rfl rfl 4 (by decide) (hts (.fieldLink RX8 31 "TilingBeats$Tilings" "beats" "I") (by decide +kernel)) (fun _ h9 => h9) rfl (by decide +kernel) rfl rfl (Nat.le_of_ble_eq_true rfl) dX8_of_23 (fun H locs hP hD hS => ?_)
    have hP : va_P (dC, dI) vwCl [(q0, .inr (5, [.ref q_sets, .ref q_struck, .int v_struckCount, .int v_count, .int l1, .int v_rhythm])), (q_sets, .inl (cI, n_sets, .inl f_sets)), (q_struck, .inl (cI, 24, .inl f_struck))] H := hP
    have hD : va_D A [(q0, .inr (5, [.ref q_sets, .ref q_struck, .int v_struckCount, .int v_count, .int l1, .int v_rhythm])), (q_sets, .inl (cI, n_sets, .inl f_sets)), (q_struck, .inl (cI, 24, .inl f_struck))] := hD
    refine lv_aload_n hx hb dX8_of_26 rfl (lv_at hl 0 rfl) ?_
    refine lv_iload_n hx hb dX8_of_27 rfl (lv_at hl 2 rfl) ?_
    refine va_put (D := (dC, dI)) (ci := 5) (v := .int l2) (ty := .int) (C := RX8) (T := TX8) (N := 6) hx hb hts iX8_of_X8 tyX8 tyX8_ok nmX8 hown hK hP hD hS 0 rfl rfl 5 (by decide) (hts (.fieldLink RX8 34 "TilingBeats$Tilings" "rhythm" "I") (by decide +kernel)) (fun _ h9 => h9) rfl (by decide +kernel) rfl rfl (Nat.le_of_ble_eq_true rfl) dX8_of_28 (fun H locs hP hD hS => ?_)
    have hP : va_P (dC, dI) vwCl [(q0, .inr (5, [.ref q_sets, .ref q_struck, .int v_struckCount, .int v_count, .int l1, .int l2])), (q_sets, .inl (cI, n_sets, .inl f_sets)), (q_struck, .inl (cI, 24, .inl f_struck))] H := hP
    have hD : va_D A [(q0, .inr (5, [.ref q_sets, .ref q_struck, .int v_struckCount, .int v_count, .int l1, .int l2])), (q_sets, .inl (cI, n_sets, .inl f_sets)), (q_struck, .inl (cI, 24, .inl f_struck))] := hD
    refine lv_aload_n hx hb dX8_of_31 rfl (lv_at hl 0 rfl) ?_
    refine lv_iconst (v := 0) hx hb dX8_of_32 (by decide) ?_
    refine va_put (D := (dC, dI)) (ci := 5) (v := .int 0) (ty := .int) (C := RX8) (T := TX8) (N := 6) hx hb hts iX8_of_X8 tyX8 tyX8_ok nmX8 hown hK hP hD hS 0 rfl rfl 3 (by decide) (hts (.fieldLink RX8 28 "TilingBeats$Tilings" "count" "I") (by decide +kernel)) (fun _ h9 => h9) rfl (by decide +kernel) rfl rfl (Nat.le_of_ble_eq_true rfl) dX8_of_33 (fun H locs hP hD hS => ?_)
    have hP : va_P (dC, dI) vwCl [(q0, .inr (5, [.ref q_sets, .ref q_struck, .int v_struckCount, .int 0, .int l1, .int l2])), (q_sets, .inl (cI, n_sets, .inl f_sets)), (q_struck, .inl (cI, 24, .inl f_struck))] H := hP
    have hD : va_D A [(q0, .inr (5, [.ref q_sets, .ref q_struck, .int v_struckCount, .int 0, .int l1, .int l2])), (q_sets, .inl (cI, n_sets, .inl f_sets)), (q_struck, .inl (cI, 24, .inl f_struck))] := hD
    refine lv_iload_n hx hb dX8_of_36 rfl (lv_at hl 2 rfl) ?_
    refine vs_calli (va_runS (As := [.int l2]) (rest := []) ⟨hx, hb, hml, hown, hts⟩ (c_J6_bitCount_0f7a4 l l2 _ h) (va_cwS 1 hts gX8_of_J6_bitCount_0f7a4 rfl rfl rfl (by decide +kernel) ⟨Nat.le_of_ble_eq_true rfl, Nat.le_of_ble_eq_true rfl⟩) ⟨fun a U g mk q => ⟨q.1, nW_call q.2⟩, fun U hU hW => ⟨rfl, nW_warm hW hN⟩⟩ rfl rfl hl.1 rfl (lv_room (Nat.le_of_ble_eq_true rfl)) dX8_of_37 ⟨Nat.le_of_ble_eq_true rfl, Nat.le_of_ble_eq_true rfl⟩) (fun r1 h => ?_)
    refine lv_istore_n (lv' := [(3, .int r1), (0, .ref q0), (1, .int l1), (2, .int l2)]) hx hb dX8_of_40 rfl hl (by decide) rfl (fun ls hl => ?_)
    refine lv_iload_n hx hb dX8_of_41 rfl (lv_at hl 0 rfl) ?_
    refine lv_if_le (tgt := 71) hx hb dX8_of_42 (by decide) (fun c2 => ?_) (fun c2 => ?_)
    · replace h := h.1 c2
      exact w71 v_struckCount 0 l1 l2 f_sets f_struck h H locs ls hP hD hS (lv_sub hl [1] rfl)
    · replace h := h.2 c2
      refine lv_iload_n hx hb dX8_of_45 rfl (lv_at hl 2 rfl) ?_
      refine lv_iload_n hx hb dX8_of_46 rfl (lv_at hl 0 rfl) ?_
      refine vs_calli (va_runSN (As := [.int l1, .int r1]) (rest := []) ⟨hx, hb, hml, hown, hts⟩ (c_X6_leftOver l l1 r1 _ h) ⟨va_cnB 2 hts gX8_of_X6_leftOver_n43 rfl rfl rfl (nw_24 hN) (hts (.initialized RX6) (by decide +kernel)) (by decide +kernel) ⟨Nat.le_of_ble_eq_true rfl, Nat.le_of_ble_eq_true rfl⟩, hts (.static yX6_leftOver) (by decide +kernel), trivial⟩ ⟨fun a U g mk q => ⟨q.1, nW_call q.2⟩, fun U hU hW => ⟨rfl, nW_warm hW hN⟩⟩ rfl rfl hl.1 rfl (lv_room (Nat.le_of_ble_eq_true rfl)) dX8_of_47 ⟨Nat.le_of_ble_eq_true rfl, Nat.le_of_ble_eq_true rfl⟩) (fun r3 h => ?_)
      refine lv_if_ne (tgt := 71) hx hb dX8_of_50 (by decide) (fun c4 => ?_) (fun c4 => ?_)
      · replace h := h.1 c4
        exact w71 v_struckCount 0 l1 l2 f_sets f_struck h H locs ls hP hD hS (lv_sub hl [1] rfl)
      · replace h := h.2 c4
        refine lv_aload_n hx hb dX8_of_53 rfl (lv_at hl 1 rfl) ?_
        have hPc := hP.sub (ws' := [(q0, .inr (5, [.ref q_sets, .ref q_struck, .int v_struckCount, .int 0, .int l1, .int l2])), (q_struck, .inl (cI, 24, .inl f_struck))]) [0, 2] rfl
        have hDc := hD.sub (ws' := [(q0, .inr (5, [.ref q_sets, .ref q_struck, .int v_struckCount, .int 0, .int l1, .int l2])), (q_struck, .inl (cI, 24, .inl f_struck))]) [0, 2] (by decide) rfl
        have hFc := va_free (wc := [(q0, .inr (5, [.ref q_sets, .ref q_struck, .int v_struckCount, .int 0, .int l1, .int l2])), (q_struck, .inl (cI, 24, .inl f_struck))]) hD hS hA [0, 2] rfl
        refine va_callv (va_runV (As := []) (rest := []) ⟨hx, hb, hml, hown, hts⟩ (c_X8_listStruck l dC dI cI cZ q0 q_sets q_struck H.size v_struckCount 0 l1 l2 f_struck  _ h) (cwV 0 hts gX8_of_X8_listStruck rfl rfl rfl (by decide +kernel) ⟨Nat.le_of_ble_eq_true rfl, Nat.le_of_ble_eq_true rfl⟩) ⟨fun a U g mk q => ⟨q.1, q.2.1, q.2.2.1, va_K.moved (u := U) (U := U.calling g mk a) (Vm.Alike.refl U.vm) q.2.2.2.1, q.2.2.2.2.1, nW_call q.2.2.2.2.2⟩, va_recv hK hPc (ci := 5) (q0 := 0) rfl rfl, fun U hU hW => ⟨rfl, by rw [hU], by rw [hU]; exact hPc, va_K.moved hW.alike hK, hDc.weaken (fun _ _ _ _ => trivial), nW_warm hW hN⟩⟩ rfl rfl hl.1 rfl (lv_room (Nat.le_of_ble_eq_true rfl)) dX8_of_54 ⟨Nat.le_of_ble_eq_true rfl, Nat.le_of_ble_eq_true rfl⟩) hS (fun q _ h => hFc q h) hFc (fun u t H1 locs ht hvm hw hB hz1 hk1 hS => ?_)
        obtain ⟨u5, u6⟩ := u
        obtain ⟨hP1, hD1⟩ := hB
        rw [ht] at hP1
        replace h := hw
        try dsimp only at h
        obtain ⟨hP, hD⟩ := va_join (wr := [(q_sets, .inl (cI, n_sets, .inl f_sets))]) (w1 := [(q0, .inr (5, [.ref q_sets, .ref q_struck, .int u5, .int 0, .int l1, .int l2])), (q_struck, .inl (cI, 24, .inl u6))]) hP hD [0, 2] [1] rfl rfl (by decide) (by decide) hk1 hFc hP1 hD1
        clear hP1 hD1 hFc hDc hPc hk1 hz1 hw hvm ht
        generalize H1 = H at hP hS ⊢
        have hP : va_P (dC, dI) vwCl [(q0, .inr (5, [.ref q_sets, .ref q_struck, .int u5, .int 0, .int l1, .int l2])), (q_sets, .inl (cI, n_sets, .inl f_sets)), (q_struck, .inl (cI, 24, .inl u6))] H := hP.sub [1, 0, 2] rfl
        have hD : va_D A [(q0, .inr (5, [.ref q_sets, .ref q_struck, .int u5, .int 0, .int l1, .int l2])), (q_sets, .inl (cI, n_sets, .inl f_sets)), (q_struck, .inl (cI, 24, .inl u6))] := hD.sub [1, 0, 2] (by decide) rfl
        refine lv_aload_n hx hb dX8_of_57 rfl (lv_at hl 1 rfl) ?_
        refine lv_aload_n hx hb dX8_of_58 rfl (lv_at hl 1 rfl) ?_
        refine va_get (D := (dC, dI)) (ci := 5) (v := .int l2) (C := RX8) (T := TX8) (N := 6) hx hb hts iX8_of_X8 hown hK hP 0 rfl rfl 5 (by decide) (hts (.fieldLink RX8 34 "TilingBeats$Tilings" "rhythm" "I") (by decide +kernel)) (fun _ h9 => h9) rfl dX8_of_59 ?_
        refine lv_iconst (v := 1) hx hb dX8_of_62 (by decide) ?_
        refine lv_iconst (v := 0) hx hb dX8_of_63 (by decide) ?_
        have hPc := hP.sub (ws' := [(q0, .inr (5, [.ref q_sets, .ref q_struck, .int u5, .int 0, .int l1, .int l2])), (q_sets, .inl (cI, n_sets, .inl f_sets)), (q_struck, .inl (cI, 24, .inl u6))]) [0, 1, 2] rfl
        have hDc := hD.sub (ws' := [(q0, .inr (5, [.ref q_sets, .ref q_struck, .int u5, .int 0, .int l1, .int l2])), (q_sets, .inl (cI, n_sets, .inl f_sets)), (q_struck, .inl (cI, 24, .inl u6))]) [0, 1, 2] (by decide) rfl
        have hFc := va_free (wc := [(q0, .inr (5, [.ref q_sets, .ref q_struck, .int u5, .int 0, .int l1, .int l2])), (q_sets, .inl (cI, n_sets, .inl f_sets)), (q_struck, .inl (cI, 24, .inl u6))]) hD hS hA [0, 1, 2] rfl
        refine va_callv (va_runS (As := [.ref q0, .int l2, .int 1, .int 0]) (rest := []) ⟨hx, hb, hml, hown, hts⟩ (c_X8_cover l 26 dC dI cI cZ q0 q_sets q_struck H.size n_sets u5 0 l1 l2 f_sets u6 l2 1 0 _ h) (va_cwS 4 hts gX8_of_X8_cover rfl rfl rfl (by decide +kernel) ⟨Nat.le_of_ble_eq_true rfl, Nat.le_of_ble_eq_true rfl⟩) ⟨fun a U g mk q => ⟨q.1, q.2.1, q.2.2.1, va_K.moved (u := U) (U := U.calling g mk a) (Vm.Alike.refl U.vm) q.2.2.2.1, q.2.2.2.2.1, nW_call q.2.2.2.2.2⟩, fun U hU hW => ⟨rfl, by rw [hU], by rw [hU]; exact hPc, va_K.moved hW.alike hK, hDc.weaken (fun _ _ _ _ => trivial), nW_warm hW hN⟩⟩ rfl rfl hl.1 rfl (lv_room (Nat.le_of_ble_eq_true rfl)) dX8_of_64 ⟨Nat.le_of_ble_eq_true rfl, Nat.le_of_ble_eq_true rfl⟩) hS (fun q _ h => hFc q h) hFc (fun u t H1 locs ht hvm hw hB hz1 hk1 hS => ?_)
        obtain ⟨u7, u8⟩ := u
        obtain ⟨hP1, hD1⟩ := hB
        rw [ht] at hP1
        replace h := hw
        try dsimp only at h
        obtain ⟨hP, hD⟩ := va_join (wr := []) (w1 := [(q0, .inr (5, [.ref q_sets, .ref q_struck, .int u5, .int u7, .int l1, .int l2])), (q_sets, .inl (cI, n_sets, .inl u8)), (q_struck, .inl (cI, 24, .inl u6))]) hP hD [0, 1, 2] [] rfl rfl (by decide) (by decide) hk1 hFc hP1 hD1
        clear hP1 hD1 hFc hDc hPc hk1 hz1 hw hvm ht
        generalize H1 = H at hP hS ⊢
        have hP : va_P (dC, dI) vwCl [(q0, .inr (5, [.ref q_sets, .ref q_struck, .int u5, .int u7, .int l1, .int l2])), (q_sets, .inl (cI, n_sets, .inl u8)), (q_struck, .inl (cI, 24, .inl u6))] H := hP.sub [0, 1, 2] rfl
        have hD : va_D A [(q0, .inr (5, [.ref q_sets, .ref q_struck, .int u5, .int u7, .int l1, .int l2])), (q_sets, .inl (cI, n_sets, .inl u8)), (q_struck, .inl (cI, 24, .inl u6))] := hD.sub [0, 1, 2] (by decide) rfl
        refine lv_aload_n hx hb dX8_of_67 rfl (lv_at hl 1 rfl) ?_
        have hPc := hP.sub (ws' := [(q0, .inr (5, [.ref q_sets, .ref q_struck, .int u5, .int u7, .int l1, .int l2])), (q_sets, .inl (cI, n_sets, .inl u8))]) [0, 1] rfl
        have hDc := hD.sub (ws' := [(q0, .inr (5, [.ref q_sets, .ref q_struck, .int u5, .int u7, .int l1, .int l2])), (q_sets, .inl (cI, n_sets, .inl u8))]) [0, 1] (by decide) rfl
        have hFc := va_free (wc := [(q0, .inr (5, [.ref q_sets, .ref q_struck, .int u5, .int u7, .int l1, .int l2])), (q_sets, .inl (cI, n_sets, .inl u8))]) hD hS hA [0, 1] rfl
        refine va_callv (va_runV (As := []) (rest := []) ⟨hx, hb, hml, hown, hts⟩ (c_X8_sort l dC dI cI cZ q0 q_sets q_struck H.size n_sets u5 u7 l1 l2 u8  _ h) (cwV 0 hts gX8_of_X8_sort rfl rfl rfl (by decide +kernel) ⟨Nat.le_of_ble_eq_true rfl, Nat.le_of_ble_eq_true rfl⟩) ⟨fun a U g mk q => ⟨q.1, q.2.1, q.2.2.1, va_K.moved (u := U) (U := U.calling g mk a) (Vm.Alike.refl U.vm) q.2.2.2.1, q.2.2.2.2.1, nW_call q.2.2.2.2.2⟩, va_recv hK hPc (ci := 5) (q0 := 0) rfl rfl, fun U hU hW => ⟨rfl, by rw [hU], by rw [hU]; exact hPc, va_K.moved hW.alike hK, hDc.weaken (fun _ _ _ _ => trivial), nW_warm hW hN⟩⟩ rfl rfl hl.1 rfl (lv_room (Nat.le_of_ble_eq_true rfl)) dX8_of_68 ⟨Nat.le_of_ble_eq_true rfl, Nat.le_of_ble_eq_true rfl⟩) hS (fun q _ h => hFc q h) hFc (fun u t H1 locs ht hvm hw hB hz1 hk1 hS => ?_)
        obtain ⟨u9, rfl⟩ : ∃ z, z = u := ⟨_, rfl⟩
        obtain ⟨hP1, hD1⟩ := hB
        rw [ht] at hP1
        replace h := hw
        try dsimp only at h
        obtain ⟨hP, hD⟩ := va_join (wr := [(q_struck, .inl (cI, 24, .inl u6))]) (w1 := [(q0, .inr (5, [.ref q_sets, .ref q_struck, .int u5, .int u7, .int l1, .int l2])), (q_sets, .inl (cI, n_sets, .inl u9))]) hP hD [0, 1] [2] rfl rfl (by decide) (by decide) hk1 hFc hP1 hD1
        clear hP1 hD1 hFc hDc hPc hk1 hz1 hw hvm ht
        generalize H1 = H at hP hS ⊢
        have hP : va_P (dC, dI) vwCl [(q0, .inr (5, [.ref q_sets, .ref q_struck, .int u5, .int u7, .int l1, .int l2])), (q_sets, .inl (cI, n_sets, .inl u9)), (q_struck, .inl (cI, 24, .inl u6))] H := hP.sub [1, 2, 0] rfl
        have hD : va_D A [(q0, .inr (5, [.ref q_sets, .ref q_struck, .int u5, .int u7, .int l1, .int l2])), (q_sets, .inl (cI, n_sets, .inl u9)), (q_struck, .inl (cI, 24, .inl u6))] := hD.sub [1, 2, 0] (by decide) rfl
        exact w71 u5 u7 l1 l2 u9 u6 h H locs ls hP hD hS (lv_sub hl [1] rfl)
  have hl := lv_entry ([.ref q0, .int p1, .int p2]) (n := 4) (Nat.le_of_ble_eq_true rfl)
  rw [lg_entry_eq]
  generalize (lg_sl ([.ref q0, .int p1, .int p2]) ++ List.replicate (4 - (lg_sl ([.ref q0, .int p1, .int p2])).length) Slot.unset).toArray = ls at hl ⊢
  have hl : lv_has ls 4 [(0, .ref q0), (1, .int p1), (2, .int p2)] := hl
  refine lv_iload_n hx hb dX8_of_0 rfl (lv_at hl 1 rfl) ?_
  refine lv_aload_n hx hb dX8_of_1 rfl (lv_at hl 0 rfl) ?_
  refine va_get (D := (dC, dI)) (ci := 5) (v := .int v_beats) (C := RX8) (T := TX8) (N := 6) hx hb hts iX8_of_X8 hown hK hP 0 rfl rfl 4 (by decide) (hts (.fieldLink RX8 31 "TilingBeats$Tilings" "beats" "I") (by decide +kernel)) (fun _ h9 => h9) rfl dX8_of_2 ?_
  refine lv_icmp_ne (tgt := 21) hx hb dX8_of_5 (by decide) (fun c10 => ?_) (fun c10 => ?_)
  · replace h := h.1 c10
    exact w21 p1 p2 v_struckCount v_count v_beats v_rhythm f_sets f_struck h s.heap [] ls hP hD hS (lv_sub hl [0, 1, 2] rfl)
  · replace h := h.2 c10
    refine lv_iload_n hx hb dX8_of_8 rfl (lv_at hl 2 rfl) ?_
    refine lv_aload_n hx hb dX8_of_9 rfl (lv_at hl 0 rfl) ?_
    refine va_get (D := (dC, dI)) (ci := 5) (v := .int v_rhythm) (C := RX8) (T := TX8) (N := 6) hx hb hts iX8_of_X8 hown hK hP 0 rfl rfl 5 (by decide) (hts (.fieldLink RX8 34 "TilingBeats$Tilings" "rhythm" "I") (by decide +kernel)) (fun _ h9 => h9) rfl dX8_of_10 ?_
    refine lv_icmp_ne (tgt := 21) hx hb dX8_of_13 (by decide) (fun c11 => ?_) (fun c11 => ?_)
    · replace h := h.1 c11
      exact w21 p1 p2 v_struckCount v_count v_beats v_rhythm f_sets f_struck h s.heap [] ls hP hD hS (lv_sub hl [0, 1, 2] rfl)
    · replace h := h.2 c11
      refine lv_aload_n hx hb dX8_of_16 rfl (lv_at hl 0 rfl) ?_
      refine va_get (D := (dC, dI)) (ci := 5) (v := .int v_count) (C := RX8) (T := TX8) (N := 6) hx hb hts iX8_of_X8 hown hK hP 0 rfl rfl 3 (by decide) (hts (.fieldLink RX8 28 "TilingBeats$Tilings" "count" "I") (by decide +kernel)) (fun _ h9 => h9) rfl dX8_of_17 ?_
      exact W.iret (v := v_count) hx hb hr (fun t ht hW => ⟨⟨_, (v_struckCount, v_count, v_beats, v_rhythm, f_sets, f_struck), rfl, h, by rw [ht]; exact hP, hD⟩, hS.F ht⟩) hS.2.2 dX8_of_20

def wp_X3_leastOfSize_j58 (v_beats : Int32) (v_rhythm : Int32) (Q : Int32 → Int32 → Int32 → Int32 → Int32 → (Nat → Int32) → (Nat → Int32) → Prop) (v_probe_struckCount : Int32) (v_probe_count : Int32) (v_probe_beats : Int32) (v_probe_rhythm : Int32) (f_probe_sets : (Nat → Int32)) (f_probe_struck : (Nat → Int32)) : Prop := Q (-1) v_probe_struckCount v_probe_count v_probe_beats v_probe_rhythm f_probe_sets f_probe_struck
def wp_X3_leastOfSize_h7 (v_beats : Int32) (v_rhythm : Int32) (Q : Int32 → Int32 → Int32 → Int32 → Int32 → (Nat → Int32) → (Nat → Int32) → Prop) : Nat → Int32 → Int32 → Int32 → Int32 → Int32 → Int32 → (Nat → Int32) → (Nat → Int32) → Prop
  | 0, _, _, _, _, _, _, _, _ => False
  | z7 + 1, l2, l3, v_probe_struckCount, v_probe_count, v_probe_beats, v_probe_rhythm, f_probe_sets, f_probe_struck => (2024 ≤ l3 → (wp_X3_leastOfSize_j58 v_beats v_rhythm Q v_probe_struckCount v_probe_count v_probe_beats v_probe_rhythm f_probe_sets f_probe_struck)) ∧ (¬ 2024 ≤ l3 → (wp_X6_full v_beats fun (r2 : Int32) => (r2 < l2 → (wp_X3_leastOfSize_j58 v_beats v_rhythm Q v_probe_struckCount v_probe_count v_probe_beats v_probe_rhythm f_probe_sets f_probe_struck)) ∧ (¬ r2 < l2 → (wp_X8_of 1 v_probe_struckCount v_probe_count v_probe_beats v_probe_rhythm f_probe_sets f_probe_struck v_beats (v_rhythm ^^^ l2) fun (r4 : Int32) (u5 : Int32) (u6 : Int32) (u7 : Int32) (u8 : Int32) (u9 : (Nat → Int32)) (u10 : (Nat → Int32)) => (r4 ≤ 0 → (wp_X3_nextOfSize l2 fun (r12 : Int32) => ∀ x13 : Int32, x13 = l3 + 1 → (wp_X3_leastOfSize_h7 v_beats v_rhythm Q z7) r12 x13 u5 u6 u7 u8 u9 u10)) ∧ (¬ r4 ≤ 0 → (Q l2 u5 u6 u7 u8 u9 u10))))))
def wp_X3_leastOfSize (v_beats : Int32) (v_rhythm : Int32) (v_probe_struckCount : Int32) (v_probe_count : Int32) (v_probe_beats : Int32) (v_probe_rhythm : Int32) (f_probe_sets : (Nat → Int32)) (f_probe_struck : (Nat → Int32)) (p1 : Int32) (Q : Int32 → Int32 → Int32 → Int32 → Int32 → (Nat → Int32) → (Nat → Int32) → Prop) : Prop := wp_X6_full p1 fun (r14 : Int32) => ∃ k15 : Nat, wp_X3_leastOfSize_h7 v_beats v_rhythm Q k15 r14 0 v_probe_struckCount v_probe_count v_probe_beats v_probe_rhythm f_probe_sets f_probe_struck
abbrev rmX3_leastOfSize : Room := { frames := 30, cells := 0, slots := 0, locals := 824 }
set_option maxRecDepth 20000 in
theorem iX3_leastOfSize_X3 : ∀ w ∈ wsX30, w ∈ wsX3_leastOfSize := by decide +kernel
set_option maxHeartbeats 4000000 in
set_option maxRecDepth 100000 in
theorem c_X3_leastOfSize (l : Launch) (dC : Nat → ClassId) (dI : Nat → Nat → Nat) (cI cZ : ClassId) (q0 q_probe q_probe_sets q_probe_struck : Nat) (sz : Nat) (v_beats : Int32) (v_rhythm : Int32) (v_mended : Int32) (v_probe_struckCount : Int32) (v_probe_count : Int32) (v_probe_beats : Int32) (v_probe_rhythm : Int32) (f_probe_sets : (Nat → Int32)) (f_probe_struck : (Nat → Int32)) (p1 : Int32) (Q : Int32 → Int32 → Int32 → Int32 → Int32 → (Nat → Int32) → (Nat → Int32) → Prop) (h : wp_X3_leastOfSize v_beats v_rhythm v_probe_struckCount v_probe_count v_probe_beats v_probe_rhythm f_probe_sets f_probe_struck p1 Q) : Met l yX3_leastOfSize wsX3_leastOfSize (rmX3_leastOfSize) (va_Pc [.ref q0, .int p1] (fun U => U.heap.size = sz ∧ va_P (dC, dI) vwCl [(q0, .inr (2, [.ref q_probe, .int v_beats, .int v_rhythm, .int v_mended])), (q_probe, .inr (5, [.ref q_probe_sets, .ref q_probe_struck, .int v_probe_struckCount, .int v_probe_count, .int v_probe_beats, .int v_probe_rhythm])), (q_probe_sets, .inl (cI, 1, .inl f_probe_sets)), (q_probe_struck, .inl (cI, 24, .inl f_probe_struck))] U.heap ∧ va_K (dC, dI) vwCl (tyZ cI cZ) U ∧ va_D (fun _ => True) [(q0, .inr (2, [.ref q_probe, .int v_beats, .int v_rhythm, .int v_mended])), (q_probe, .inr (5, [.ref q_probe_sets, .ref q_probe_struck, .int v_probe_struckCount, .int v_probe_count, .int v_probe_beats, .int v_probe_rhythm])), (q_probe_sets, .inl (cI, 1, .inl f_probe_sets)), (q_probe_struck, .inl (cI, 24, .inl f_probe_struck))] ∧ nW U)) (va_Qi (fun (r : Int32) (u : Int32 × Int32 × Int32 × Int32 × (Nat → Int32) × (Nat → Int32)) => Q r u.1 u.2.1 u.2.2.1 u.2.2.2.1 u.2.2.2.2.1 u.2.2.2.2.2) (fun (u : Int32 × Int32 × Int32 × Int32 × (Nat → Int32) × (Nat → Int32)) (t : State) => va_P (dC, dI) vwCl [(q0, .inr (2, [.ref q_probe, .int v_beats, .int v_rhythm, .int v_mended])), (q_probe, .inr (5, [.ref q_probe_sets, .ref q_probe_struck, .int u.1, .int u.2.1, .int u.2.2.1, .int u.2.2.2.1])), (q_probe_sets, .inl (cI, 1, .inl u.2.2.2.2.1)), (q_probe_struck, .inl (cI, 24, .inl u.2.2.2.2.2))] t.heap ∧ va_D (va_A [(q0, .inr (2, [.ref q_probe, .int v_beats, .int v_rhythm, .int v_mended])), (q_probe, .inr (5, [.ref q_probe_sets, .ref q_probe_struck, .int v_probe_struckCount, .int v_probe_count, .int v_probe_beats, .int v_probe_rhythm])), (q_probe_sets, .inl (cI, 1, .inl f_probe_sets)), (q_probe_struck, .inl (cI, 24, .inl f_probe_struck))] sz) [(q0, .inr (2, [.ref q_probe, .int v_beats, .int v_rhythm, .int v_mended])), (q_probe, .inr (5, [.ref q_probe_sets, .ref q_probe_struck, .int u.1, .int u.2.1, .int u.2.2.1, .int u.2.2.2.1])), (q_probe_sets, .inl (cI, 1, .inl u.2.2.2.2.1)), (q_probe_struck, .inl (cI, 24, .inl u.2.2.2.2.2))]) (va_A [(q0, .inr (2, [.ref q_probe, .int v_beats, .int v_rhythm, .int v_mended])), (q_probe, .inr (5, [.ref q_probe_sets, .ref q_probe_struck, .int v_probe_struckCount, .int v_probe_count, .int v_probe_beats, .int v_probe_rhythm])), (q_probe_sets, .inl (cI, 1, .inl f_probe_sets)), (q_probe_struck, .inl (cI, 24, .inl f_probe_struck))] sz)) 0 0 (va_A [(q0, .inr (2, [.ref q_probe, .int v_beats, .int v_rhythm, .int v_mended])), (q_probe, .inr (5, [.ref q_probe_sets, .ref q_probe_struck, .int v_probe_struckCount, .int v_probe_count, .int v_probe_beats, .int v_probe_rhythm])), (q_probe_sets, .inl (cI, 1, .inl f_probe_sets)), (q_probe_struck, .inl (cI, 24, .inl f_probe_struck))] sz) := by
  unfold wp_X3_leastOfSize at h
  refine Met.ofW (cc := cX3_leastOfSize) (maxL := 4) (ret := (some .int)) (by decide) rfl ?_
  intro p e s m args below meth c s₁ B hml hv
  obtain ⟨rfl, hsz, hP, hK, hD0, hN⟩ := hv
  have hx := B.exec
  have hb := B.bytes
  have hr := B.returns
  have hts := atoms_spec (ws := wsX3_leastOfSize) B.pre
  have hown : s.vm.findClass RX3 = some m.cls := findClass_of_methodNamed B.named
  have hlocks := B.notSynchronized
  subst hsz
  have hD := hD0.self (sz := s.heap.size)
  generalize hAe : va_A [(q0, .inr (2, [.ref q_probe, .int v_beats, .int v_rhythm, .int v_mended])), (q_probe, .inr (5, [.ref q_probe_sets, .ref q_probe_struck, .int v_probe_struckCount, .int v_probe_count, .int v_probe_beats, .int v_probe_rhythm])), (q_probe_sets, .inl (cI, 1, .inl f_probe_sets)), (q_probe_struck, .inl (cI, 24, .inl f_probe_struck))] s.heap.size = A at hD ⊢
  have hA : ∀ q : Nat, s.heap.size ≤ q → A q := fun q h => by rw [← hAe]; exact Or.inr h
  clear hAe
  have hS : va_S A s.heap s.heap [] := va_S.rf
  have w58 : ∀ (v_probe_struckCount : Int32) (v_probe_count : Int32) (v_probe_beats : Int32) (v_probe_rhythm : Int32) (f_probe_sets : (Nat → Int32)) (f_probe_struck : (Nat → Int32)), wp_X3_leastOfSize_j58 v_beats v_rhythm Q v_probe_struckCount v_probe_count v_probe_beats v_probe_rhythm f_probe_sets f_probe_struck → ∀ (H : Heap) (locs : List Loc) (ls : Array Slot), va_P (dC, dI) vwCl [(q0, .inr (2, [.ref q_probe, .int v_beats, .int v_rhythm, .int v_mended])), (q_probe, .inr (5, [.ref q_probe_sets, .ref q_probe_struck, .int v_probe_struckCount, .int v_probe_count, .int v_probe_beats, .int v_probe_rhythm])), (q_probe_sets, .inl (cI, 1, .inl f_probe_sets)), (q_probe_struck, .inl (cI, 24, .inl f_probe_struck))] H → va_D A [(q0, .inr (2, [.ref q_probe, .int v_beats, .int v_rhythm, .int v_mended])), (q_probe, .inr (5, [.ref q_probe_sets, .ref q_probe_struck, .int v_probe_struckCount, .int v_probe_count, .int v_probe_beats, .int v_probe_rhythm])), (q_probe_sets, .inl (cI, 1, .inl f_probe_sets)), (q_probe_struck, .inl (cI, 24, .inl f_probe_struck))] → va_S A s.heap H locs → lv_has ls 4 [] → W p l e (headSpec wsX3_leastOfSize (rmX3_leastOfSize)).room s m ([.ref q0, .int p1] : List Value).toArray below meth c H locs 0 0 (MQ below (va_Qi (fun (r : Int32) (u : Int32 × Int32 × Int32 × Int32 × (Nat → Int32) × (Nat → Int32)) => Q r u.1 u.2.1 u.2.2.1 u.2.2.2.1 u.2.2.2.2.1 u.2.2.2.2.2) (fun (u : Int32 × Int32 × Int32 × Int32 × (Nat → Int32) × (Nat → Int32)) (t : State) => va_P (dC, dI) vwCl [(q0, .inr (2, [.ref q_probe, .int v_beats, .int v_rhythm, .int v_mended])), (q_probe, .inr (5, [.ref q_probe_sets, .ref q_probe_struck, .int u.1, .int u.2.1, .int u.2.2.1, .int u.2.2.2.1])), (q_probe_sets, .inl (cI, 1, .inl u.2.2.2.2.1)), (q_probe_struck, .inl (cI, 24, .inl u.2.2.2.2.2))] t.heap ∧ va_D A [(q0, .inr (2, [.ref q_probe, .int v_beats, .int v_rhythm, .int v_mended])), (q_probe, .inr (5, [.ref q_probe_sets, .ref q_probe_struck, .int u.1, .int u.2.1, .int u.2.2.1, .int u.2.2.2.1])), (q_probe_sets, .inl (cI, 1, .inl u.2.2.2.2.1)), (q_probe_struck, .inl (cI, 24, .inl u.2.2.2.2.2))]) A) ([.ref q0, .int p1] : List Value).toArray s 0 0 A) (F0 m 58 ls []) := by
    intro v_probe_struckCount v_probe_count v_probe_beats v_probe_rhythm f_probe_sets f_probe_struck h H locs ls hP hD hS hl
    unfold wp_X3_leastOfSize_j58 at h
    refine lv_iconst (v := (-1)) hx hb dX3_leastOfSize_58 (by decide) ?_
    exact W.iret (v := (-1)) hx hb hr (fun t ht hW => ⟨⟨_, (v_probe_struckCount, v_probe_count, v_probe_beats, v_probe_rhythm, f_probe_sets, f_probe_struck), rfl, h, by rw [ht]; exact hP, hD⟩, hS.F ht⟩) hS.2.2 dX3_leastOfSize_59
  have w7 : ∀ (z7 : Nat) (l2 : Int32) (l3 : Int32) (v_probe_struckCount : Int32) (v_probe_count : Int32) (v_probe_beats : Int32) (v_probe_rhythm : Int32) (f_probe_sets : (Nat → Int32)) (f_probe_struck : (Nat → Int32)), wp_X3_leastOfSize_h7 v_beats v_rhythm Q z7 l2 l3 v_probe_struckCount v_probe_count v_probe_beats v_probe_rhythm f_probe_sets f_probe_struck → ∀ (H : Heap) (locs : List Loc) (ls : Array Slot), va_P (dC, dI) vwCl [(q0, .inr (2, [.ref q_probe, .int v_beats, .int v_rhythm, .int v_mended])), (q_probe, .inr (5, [.ref q_probe_sets, .ref q_probe_struck, .int v_probe_struckCount, .int v_probe_count, .int v_probe_beats, .int v_probe_rhythm])), (q_probe_sets, .inl (cI, 1, .inl f_probe_sets)), (q_probe_struck, .inl (cI, 24, .inl f_probe_struck))] H → va_D A [(q0, .inr (2, [.ref q_probe, .int v_beats, .int v_rhythm, .int v_mended])), (q_probe, .inr (5, [.ref q_probe_sets, .ref q_probe_struck, .int v_probe_struckCount, .int v_probe_count, .int v_probe_beats, .int v_probe_rhythm])), (q_probe_sets, .inl (cI, 1, .inl f_probe_sets)), (q_probe_struck, .inl (cI, 24, .inl f_probe_struck))] → va_S A s.heap H locs → lv_has ls 4 [(0, .ref q0), (2, .int l2), (3, .int l3)] → W p l e (headSpec wsX3_leastOfSize (rmX3_leastOfSize)).room s m ([.ref q0, .int p1] : List Value).toArray below meth c H locs 0 0 (MQ below (va_Qi (fun (r : Int32) (u : Int32 × Int32 × Int32 × Int32 × (Nat → Int32) × (Nat → Int32)) => Q r u.1 u.2.1 u.2.2.1 u.2.2.2.1 u.2.2.2.2.1 u.2.2.2.2.2) (fun (u : Int32 × Int32 × Int32 × Int32 × (Nat → Int32) × (Nat → Int32)) (t : State) => va_P (dC, dI) vwCl [(q0, .inr (2, [.ref q_probe, .int v_beats, .int v_rhythm, .int v_mended])), (q_probe, .inr (5, [.ref q_probe_sets, .ref q_probe_struck, .int u.1, .int u.2.1, .int u.2.2.1, .int u.2.2.2.1])), (q_probe_sets, .inl (cI, 1, .inl u.2.2.2.2.1)), (q_probe_struck, .inl (cI, 24, .inl u.2.2.2.2.2))] t.heap ∧ va_D A [(q0, .inr (2, [.ref q_probe, .int v_beats, .int v_rhythm, .int v_mended])), (q_probe, .inr (5, [.ref q_probe_sets, .ref q_probe_struck, .int u.1, .int u.2.1, .int u.2.2.1, .int u.2.2.2.1])), (q_probe_sets, .inl (cI, 1, .inl u.2.2.2.2.1)), (q_probe_struck, .inl (cI, 24, .inl u.2.2.2.2.2))]) A) ([.ref q0, .int p1] : List Value).toArray s 0 0 A) (F0 m 7 ls []) := by
    intro z7
    induction z7 with
    | zero => intro l2 l3 v_probe_struckCount v_probe_count v_probe_beats v_probe_rhythm f_probe_sets f_probe_struck h; unfold wp_X3_leastOfSize_h7 at h; exact h.elim
    | succ z7 k7 =>
      intro l2 l3 v_probe_struckCount v_probe_count v_probe_beats v_probe_rhythm f_probe_sets f_probe_struck h H locs ls hP hD hS hl
      unfold wp_X3_leastOfSize_h7 at h
      refine lv_iload_n hx hb dX3_leastOfSize_7 rfl (lv_at hl 2 rfl) ?_
      refine lv_sipush (v := 2024) hx hb dX3_leastOfSize_8 (by decide) ?_
      refine lv_icmp_ge (tgt := 58) hx hb dX3_leastOfSize_11 (by decide) (fun c1 => ?_) (fun c1 => ?_)
      · replace h := h.1 c1
        exact w58 v_probe_struckCount v_probe_count v_probe_beats v_probe_rhythm f_probe_sets f_probe_struck h H locs ls hP hD hS (lv_sub hl [] rfl)
      · replace h := h.2 c1
        refine lv_iload_n hx hb dX3_leastOfSize_14 rfl (lv_at hl 1 rfl) ?_
        refine lv_aload_n hx hb dX3_leastOfSize_15 rfl (lv_at hl 0 rfl) ?_
        refine va_get (D := (dC, dI)) (ci := 2) (v := .int v_beats) (C := RX3) (T := TX3) (N := 4) hx hb hts iX3_leastOfSize_X3 hown hK hP 0 rfl rfl 1 (by decide) (hts (.fieldLink RX3 20 "TilingBeats$Mending" "beats" "I") (by decide +kernel)) (fun _ h9 => h9) rfl dX3_leastOfSize_16 ?_
        refine vs_calli (va_runSN (As := [.int v_beats]) (rest := [.int l2]) ⟨hx, hb, hml, hown, hts⟩ (c_X6_full l v_beats _ h) ⟨va_cnB 1 hts gX3_leastOfSize_X6_full_n39 rfl rfl rfl (nw_40 hN) (hts (.initialized RX6) (by decide +kernel)) (by decide +kernel) ⟨Nat.le_of_ble_eq_true rfl, Nat.le_of_ble_eq_true rfl⟩, hts (.static yX6_full) (by decide +kernel), trivial⟩ ⟨fun a U g mk q => ⟨q.1, nW_call q.2⟩, fun U hU hW => ⟨rfl, nW_warm hW hN⟩⟩ rfl rfl hl.1 rfl (lv_room (Nat.le_of_ble_eq_true rfl)) dX3_leastOfSize_19 ⟨Nat.le_of_ble_eq_true rfl, Nat.le_of_ble_eq_true rfl⟩) (fun r2 h => ?_)
        refine lv_icmp_gt (tgt := 58) hx hb dX3_leastOfSize_22 (by decide) (fun c3 => ?_) (fun c3 => ?_)
        · replace h := h.1 c3
          exact w58 v_probe_struckCount v_probe_count v_probe_beats v_probe_rhythm f_probe_sets f_probe_struck h H locs ls hP hD hS (lv_sub hl [] rfl)
        · replace h := h.2 c3
          refine lv_aload_n hx hb dX3_leastOfSize_25 rfl (lv_at hl 0 rfl) ?_
          refine va_get (D := (dC, dI)) (ci := 2) (v := .ref q_probe) (C := RX3) (T := TX3) (N := 4) hx hb hts iX3_leastOfSize_X3 hown hK hP 0 rfl rfl 0 (by decide) (hts (.fieldLink RX3 14 "TilingBeats$Mending" "probe" "LTilingBeats$Tilings;") (by decide +kernel)) (fun _ h9 => h9) rfl dX3_leastOfSize_26 ?_
          refine lv_aload_n hx hb dX3_leastOfSize_29 rfl (lv_at hl 0 rfl) ?_
          refine va_get (D := (dC, dI)) (ci := 2) (v := .int v_beats) (C := RX3) (T := TX3) (N := 4) hx hb hts iX3_leastOfSize_X3 hown hK hP 0 rfl rfl 1 (by decide) (hts (.fieldLink RX3 20 "TilingBeats$Mending" "beats" "I") (by decide +kernel)) (fun _ h9 => h9) rfl dX3_leastOfSize_30 ?_
          refine lv_aload_n hx hb dX3_leastOfSize_33 rfl (lv_at hl 0 rfl) ?_
          refine va_get (D := (dC, dI)) (ci := 2) (v := .int v_rhythm) (C := RX3) (T := TX3) (N := 4) hx hb hts iX3_leastOfSize_X3 hown hK hP 0 rfl rfl 2 (by decide) (hts (.fieldLink RX3 24 "TilingBeats$Mending" "rhythm" "I") (by decide +kernel)) (fun _ h9 => h9) rfl dX3_leastOfSize_34 ?_
          refine lv_iload_n hx hb dX3_leastOfSize_37 rfl (lv_at hl 1 rfl) ?_
          refine lv_ixor hx hb dX3_leastOfSize_38 ?_
          have hPc := hP.sub (ws' := [(q_probe, .inr (5, [.ref q_probe_sets, .ref q_probe_struck, .int v_probe_struckCount, .int v_probe_count, .int v_probe_beats, .int v_probe_rhythm])), (q_probe_sets, .inl (cI, 1, .inl f_probe_sets)), (q_probe_struck, .inl (cI, 24, .inl f_probe_struck))]) [1, 2, 3] rfl
          have hDc := hD.sub (ws' := [(q_probe, .inr (5, [.ref q_probe_sets, .ref q_probe_struck, .int v_probe_struckCount, .int v_probe_count, .int v_probe_beats, .int v_probe_rhythm])), (q_probe_sets, .inl (cI, 1, .inl f_probe_sets)), (q_probe_struck, .inl (cI, 24, .inl f_probe_struck))]) [1, 2, 3] (by decide) rfl
          have hFc := va_free (wc := [(q_probe, .inr (5, [.ref q_probe_sets, .ref q_probe_struck, .int v_probe_struckCount, .int v_probe_count, .int v_probe_beats, .int v_probe_rhythm])), (q_probe_sets, .inl (cI, 1, .inl f_probe_sets)), (q_probe_struck, .inl (cI, 24, .inl f_probe_struck))]) hD hS hA [1, 2, 3] rfl
          refine va_calli (va_runVN (As := [.int v_beats, .int (v_rhythm ^^^ l2)]) (rest := []) ⟨hx, hb, hml, hown, hts⟩ (c_X8_of l dC dI cI cZ q_probe q_probe_sets q_probe_struck H.size 1 v_probe_struckCount v_probe_count v_probe_beats v_probe_rhythm f_probe_sets f_probe_struck v_beats (v_rhythm ^^^ l2) _ h) ⟨va_cnB 2 hts gX3_leastOfSize_X8_of_n44 rfl rfl rfl (nw_41 hN) (hts (.initialized RX8) (by decide +kernel)) (by decide +kernel) ⟨Nat.le_of_ble_eq_true rfl, Nat.le_of_ble_eq_true rfl⟩, hts (.instanceMethod yX8_of) (by decide +kernel), hts (.selects RX8 yX8_of yX8_of) (by decide +kernel)⟩ ⟨fun a U g mk q => ⟨q.1, q.2.1, q.2.2.1, va_K.moved (u := U) (U := U.calling g mk a) (Vm.Alike.refl U.vm) q.2.2.2.1, q.2.2.2.2.1, nW_call q.2.2.2.2.2⟩, va_recv hK hPc (ci := 5) (q0 := 0) rfl rfl, fun U hU hW => ⟨rfl, by rw [hU], by rw [hU]; exact hPc, va_K.moved hW.alike hK, hDc.weaken (fun _ _ _ _ => trivial), nW_warm hW hN⟩⟩ rfl rfl hl.1 rfl (lv_room (Nat.le_of_ble_eq_true rfl)) dX3_leastOfSize_39 ⟨Nat.le_of_ble_eq_true rfl, Nat.le_of_ble_eq_true rfl⟩) hS (fun q _ h => hFc q h) hFc (fun r4 u t H1 locs ht hvm hw hB hz1 hk1 hS => ?_)
          obtain ⟨u5, u6, u7, u8, u9, u10⟩ := u
          obtain ⟨hP1, hD1⟩ := hB
          rw [ht] at hP1
          replace h := hw
          try dsimp only at h
          obtain ⟨hP, hD⟩ := va_join (wr := [(q0, .inr (2, [.ref q_probe, .int v_beats, .int v_rhythm, .int v_mended]))]) (w1 := [(q_probe, .inr (5, [.ref q_probe_sets, .ref q_probe_struck, .int u5, .int u6, .int u7, .int u8])), (q_probe_sets, .inl (cI, 1, .inl u9)), (q_probe_struck, .inl (cI, 24, .inl u10))]) hP hD [1, 2, 3] [0] rfl rfl (by decide) (by decide) hk1 hFc hP1 hD1
          clear hP1 hD1 hFc hDc hPc hk1 hz1 hw hvm ht
          generalize H1 = H at hP hS ⊢
          have hP : va_P (dC, dI) vwCl [(q0, .inr (2, [.ref q_probe, .int v_beats, .int v_rhythm, .int v_mended])), (q_probe, .inr (5, [.ref q_probe_sets, .ref q_probe_struck, .int u5, .int u6, .int u7, .int u8])), (q_probe_sets, .inl (cI, 1, .inl u9)), (q_probe_struck, .inl (cI, 24, .inl u10))] H := hP.sub [0, 1, 2, 3] rfl
          have hD : va_D A [(q0, .inr (2, [.ref q_probe, .int v_beats, .int v_rhythm, .int v_mended])), (q_probe, .inr (5, [.ref q_probe_sets, .ref q_probe_struck, .int u5, .int u6, .int u7, .int u8])), (q_probe_sets, .inl (cI, 1, .inl u9)), (q_probe_struck, .inl (cI, 24, .inl u10))] := hD.sub [0, 1, 2, 3] (by decide) rfl
          refine lv_if_le (tgt := 47) hx hb dX3_leastOfSize_42 (by decide) (fun c11 => ?_) (fun c11 => ?_)
          · replace h := h.1 c11
            refine lv_iload_n hx hb dX3_leastOfSize_47 rfl (lv_at hl 1 rfl) ?_
            refine vs_calli (va_runS (As := [.int l2]) (rest := []) ⟨hx, hb, hml, hown, hts⟩ (c_X3_nextOfSize l l2 _ h) (va_cwS 1 hts gX3_leastOfSize_X3_nextOfSize rfl rfl rfl (by decide +kernel) ⟨Nat.le_of_ble_eq_true rfl, Nat.le_of_ble_eq_true rfl⟩) ⟨fun a U g mk q => ⟨q.1, nW_call q.2⟩, fun U hU hW => ⟨rfl, nW_warm hW hN⟩⟩ rfl rfl hl.1 rfl (lv_room (Nat.le_of_ble_eq_true rfl)) dX3_leastOfSize_48 ⟨Nat.le_of_ble_eq_true rfl, Nat.le_of_ble_eq_true rfl⟩) (fun r12 h => ?_)
            refine lv_istore_n (lv' := [(2, .int r12), (0, .ref q0), (3, .int l3)]) hx hb dX3_leastOfSize_51 rfl hl (by decide) rfl (fun ls hl => ?_)
            obtain ⟨x13, ex13⟩ : ∃ y : Int32, y = l3 + 1 := ⟨_, rfl⟩
            replace h := h x13 ex13
            refine lv_iinc (v := x13) (lv' := [(3, .int x13), (2, .int r12), (0, .ref q0)]) hx hb dX3_leastOfSize_52 hl (k := 2) rfl (by rw [ex13]; rfl) (by decide) rfl (fun ls hl => ?_)
            refine lv_goto (tgt := 7) hx hb dX3_leastOfSize_55 (by decide) ?_
            exact k7 r12 x13 u5 u6 u7 u8 u9 u10 h H locs ls hP hD hS (lv_sub hl [2, 1, 0] rfl)
          · replace h := h.2 c11
            refine lv_iload_n hx hb dX3_leastOfSize_45 rfl (lv_at hl 1 rfl) ?_
            exact W.iret (v := l2) hx hb hr (fun t ht hW => ⟨⟨_, (u5, u6, u7, u8, u9, u10), rfl, h, by rw [ht]; exact hP, hD⟩, hS.F ht⟩) hS.2.2 dX3_leastOfSize_46
  have hl := lv_entry ([.ref q0, .int p1]) (n := 4) (Nat.le_of_ble_eq_true rfl)
  rw [lg_entry_eq]
  generalize (lg_sl ([.ref q0, .int p1]) ++ List.replicate (4 - (lg_sl ([.ref q0, .int p1])).length) Slot.unset).toArray = ls at hl ⊢
  have hl : lv_has ls 4 [(0, .ref q0), (1, .int p1)] := hl
  refine lv_iload_n hx hb dX3_leastOfSize_0 rfl (lv_at hl 1 rfl) ?_
  refine vs_calli (va_runSN (As := [.int p1]) (rest := []) ⟨hx, hb, hml, hown, hts⟩ (c_X6_full l p1 _ h) ⟨va_cnB 1 hts gX3_leastOfSize_X6_full_n39 rfl rfl rfl (nw_40 hN) (hts (.initialized RX6) (by decide +kernel)) (by decide +kernel) ⟨Nat.le_of_ble_eq_true rfl, Nat.le_of_ble_eq_true rfl⟩, hts (.static yX6_full) (by decide +kernel), trivial⟩ ⟨fun a U g mk q => ⟨q.1, nW_call q.2⟩, fun U hU hW => ⟨rfl, nW_warm hW hN⟩⟩ rfl rfl hl.1 rfl (lv_room (Nat.le_of_ble_eq_true rfl)) dX3_leastOfSize_1 ⟨Nat.le_of_ble_eq_true rfl, Nat.le_of_ble_eq_true rfl⟩) (fun r14 h => ?_)
  refine lv_istore_n (lv' := [(2, .int r14), (0, .ref q0), (1, .int p1)]) hx hb dX3_leastOfSize_4 rfl hl (by decide) rfl (fun ls hl => ?_)
  refine lv_iconst (v := 0) hx hb dX3_leastOfSize_5 (by decide) ?_
  refine lv_istore_n (lv' := [(3, .int 0), (2, .int r14), (0, .ref q0), (1, .int p1)]) hx hb dX3_leastOfSize_6 rfl hl (by decide) rfl (fun ls hl => ?_)
  obtain ⟨k15, h⟩ := h
  exact w7 k15 r14 0 v_probe_struckCount v_probe_count v_probe_beats v_probe_rhythm f_probe_sets f_probe_struck h s.heap [] ls hP hD hS (lv_sub hl [2, 1, 0] rfl)

def wp_X3_of_j66 (Q : Int32 → Int32 → Int32 → Int32 → Int32 → Int32 → Int32 → Int32 → (Nat → Int32) → (Nat → Int32) → Prop) (v_beats : Int32) (v_rhythm : Int32) (v_mended : Int32) (v_probe_struckCount : Int32) (v_probe_count : Int32) (v_probe_beats : Int32) (v_probe_rhythm : Int32) (f_probe_sets : (Nat → Int32)) (f_probe_struck : (Nat → Int32)) : Prop := Q v_mended v_beats v_rhythm v_mended v_probe_struckCount v_probe_count v_probe_beats v_probe_rhythm f_probe_sets f_probe_struck
def wp_X3_of_h38 (Q : Int32 → Int32 → Int32 → Int32 → Int32 → Int32 → Int32 → Int32 → (Nat → Int32) → (Nat → Int32) → Prop) : Nat → Int32 → Int32 → Int32 → Int32 → Int32 → Int32 → Int32 → Int32 → (Nat → Int32) → (Nat → Int32) → Prop
  | 0, _, _, _, _, _, _, _, _, _, _ => False
  | z38 + 1, l3, v_beats, v_rhythm, v_mended, v_probe_struckCount, v_probe_count, v_probe_beats, v_probe_rhythm, f_probe_sets, f_probe_struck => (3 < l3 → (wp_X3_of_j66 Q v_beats v_rhythm v_mended v_probe_struckCount v_probe_count v_probe_beats v_probe_rhythm f_probe_sets f_probe_struck)) ∧ (¬ 3 < l3 → ((¬ v_mended = (-1) → (wp_X3_of_j66 Q v_beats v_rhythm v_mended v_probe_struckCount v_probe_count v_probe_beats v_probe_rhythm f_probe_sets f_probe_struck)) ∧ (v_mended = (-1) → (wp_X3_leastOfSize v_beats v_rhythm v_probe_struckCount v_probe_count v_probe_beats v_probe_rhythm f_probe_sets f_probe_struck l3 fun (r3 : Int32) (u4 : Int32) (u5 : Int32) (u6 : Int32) (u7 : Int32) (u8 : (Nat → Int32)) (u9 : (Nat → Int32)) => ∀ x10 : Int32, x10 = l3 + 1 → (wp_X3_of_h38 Q z38) x10 v_beats v_rhythm r3 u4 u5 u6 u7 u8 u9))))
def wp_X3_of_j21 (Q : Int32 → Int32 → Int32 → Int32 → Int32 → Int32 → Int32 → Int32 → (Nat → Int32) → (Nat → Int32) → Prop) (l1 : Int32) (l2 : Int32) (v_beats : Int32) (v_rhythm : Int32) (v_mended : Int32) (v_probe_struckCount : Int32) (v_probe_count : Int32) (v_probe_beats : Int32) (v_probe_rhythm : Int32) (f_probe_sets : (Nat → Int32)) (f_probe_struck : (Nat → Int32)) : Prop := ∃ k11 : Nat, wp_X3_of_h38 Q k11 0 l1 l2 (-1) v_probe_struckCount v_probe_count v_probe_beats v_probe_rhythm f_probe_sets f_probe_struck
def wp_X3_of (v_beats : Int32) (v_rhythm : Int32) (v_mended : Int32) (v_probe_struckCount : Int32) (v_probe_count : Int32) (v_probe_beats : Int32) (v_probe_rhythm : Int32) (f_probe_sets : (Nat → Int32)) (f_probe_struck : (Nat → Int32)) (p1 : Int32) (p2 : Int32) (Q : Int32 → Int32 → Int32 → Int32 → Int32 → Int32 → Int32 → Int32 → (Nat → Int32) → (Nat → Int32) → Prop) : Prop := (¬ p1 = v_beats → (wp_X3_of_j21 Q p1 p2 v_beats v_rhythm v_mended v_probe_struckCount v_probe_count v_probe_beats v_probe_rhythm f_probe_sets f_probe_struck)) ∧ (p1 = v_beats → ((¬ p2 = v_rhythm → (wp_X3_of_j21 Q p1 p2 v_beats v_rhythm v_mended v_probe_struckCount v_probe_count v_probe_beats v_probe_rhythm f_probe_sets f_probe_struck)) ∧ (p2 = v_rhythm → (Q v_mended v_beats v_rhythm v_mended v_probe_struckCount v_probe_count v_probe_beats v_probe_rhythm f_probe_sets f_probe_struck))))
abbrev rmX3_of : Room := { frames := 31, cells := 0, slots := 0, locals := 847 }
set_option maxRecDepth 20000 in
theorem iX3_of_X3 : ∀ w ∈ wsX30, w ∈ wsX3_of := by decide +kernel
set_option maxHeartbeats 4000000 in
set_option maxRecDepth 100000 in
theorem c_X3_of (l : Launch) (dC : Nat → ClassId) (dI : Nat → Nat → Nat) (cI cZ : ClassId) (q0 q_probe q_probe_sets q_probe_struck : Nat) (sz : Nat) (v_beats : Int32) (v_rhythm : Int32) (v_mended : Int32) (v_probe_struckCount : Int32) (v_probe_count : Int32) (v_probe_beats : Int32) (v_probe_rhythm : Int32) (f_probe_sets : (Nat → Int32)) (f_probe_struck : (Nat → Int32)) (p1 : Int32) (p2 : Int32) (Q : Int32 → Int32 → Int32 → Int32 → Int32 → Int32 → Int32 → Int32 → (Nat → Int32) → (Nat → Int32) → Prop) (h : wp_X3_of v_beats v_rhythm v_mended v_probe_struckCount v_probe_count v_probe_beats v_probe_rhythm f_probe_sets f_probe_struck p1 p2 Q) : Met l yX3_of wsX3_of (rmX3_of) (va_Pc [.ref q0, .int p1, .int p2] (fun U => U.heap.size = sz ∧ va_P (dC, dI) vwCl [(q0, .inr (2, [.ref q_probe, .int v_beats, .int v_rhythm, .int v_mended])), (q_probe, .inr (5, [.ref q_probe_sets, .ref q_probe_struck, .int v_probe_struckCount, .int v_probe_count, .int v_probe_beats, .int v_probe_rhythm])), (q_probe_sets, .inl (cI, 1, .inl f_probe_sets)), (q_probe_struck, .inl (cI, 24, .inl f_probe_struck))] U.heap ∧ va_K (dC, dI) vwCl (tyZ cI cZ) U ∧ va_D (fun _ => True) [(q0, .inr (2, [.ref q_probe, .int v_beats, .int v_rhythm, .int v_mended])), (q_probe, .inr (5, [.ref q_probe_sets, .ref q_probe_struck, .int v_probe_struckCount, .int v_probe_count, .int v_probe_beats, .int v_probe_rhythm])), (q_probe_sets, .inl (cI, 1, .inl f_probe_sets)), (q_probe_struck, .inl (cI, 24, .inl f_probe_struck))] ∧ nW U)) (va_Qi (fun (r : Int32) (u : Int32 × Int32 × Int32 × Int32 × Int32 × Int32 × Int32 × (Nat → Int32) × (Nat → Int32)) => Q r u.1 u.2.1 u.2.2.1 u.2.2.2.1 u.2.2.2.2.1 u.2.2.2.2.2.1 u.2.2.2.2.2.2.1 u.2.2.2.2.2.2.2.1 u.2.2.2.2.2.2.2.2) (fun (u : Int32 × Int32 × Int32 × Int32 × Int32 × Int32 × Int32 × (Nat → Int32) × (Nat → Int32)) (t : State) => va_P (dC, dI) vwCl [(q0, .inr (2, [.ref q_probe, .int u.1, .int u.2.1, .int u.2.2.1])), (q_probe, .inr (5, [.ref q_probe_sets, .ref q_probe_struck, .int u.2.2.2.1, .int u.2.2.2.2.1, .int u.2.2.2.2.2.1, .int u.2.2.2.2.2.2.1])), (q_probe_sets, .inl (cI, 1, .inl u.2.2.2.2.2.2.2.1)), (q_probe_struck, .inl (cI, 24, .inl u.2.2.2.2.2.2.2.2))] t.heap ∧ va_D (va_A [(q0, .inr (2, [.ref q_probe, .int v_beats, .int v_rhythm, .int v_mended])), (q_probe, .inr (5, [.ref q_probe_sets, .ref q_probe_struck, .int v_probe_struckCount, .int v_probe_count, .int v_probe_beats, .int v_probe_rhythm])), (q_probe_sets, .inl (cI, 1, .inl f_probe_sets)), (q_probe_struck, .inl (cI, 24, .inl f_probe_struck))] sz) [(q0, .inr (2, [.ref q_probe, .int u.1, .int u.2.1, .int u.2.2.1])), (q_probe, .inr (5, [.ref q_probe_sets, .ref q_probe_struck, .int u.2.2.2.1, .int u.2.2.2.2.1, .int u.2.2.2.2.2.1, .int u.2.2.2.2.2.2.1])), (q_probe_sets, .inl (cI, 1, .inl u.2.2.2.2.2.2.2.1)), (q_probe_struck, .inl (cI, 24, .inl u.2.2.2.2.2.2.2.2))]) (va_A [(q0, .inr (2, [.ref q_probe, .int v_beats, .int v_rhythm, .int v_mended])), (q_probe, .inr (5, [.ref q_probe_sets, .ref q_probe_struck, .int v_probe_struckCount, .int v_probe_count, .int v_probe_beats, .int v_probe_rhythm])), (q_probe_sets, .inl (cI, 1, .inl f_probe_sets)), (q_probe_struck, .inl (cI, 24, .inl f_probe_struck))] sz)) 0 0 (va_A [(q0, .inr (2, [.ref q_probe, .int v_beats, .int v_rhythm, .int v_mended])), (q_probe, .inr (5, [.ref q_probe_sets, .ref q_probe_struck, .int v_probe_struckCount, .int v_probe_count, .int v_probe_beats, .int v_probe_rhythm])), (q_probe_sets, .inl (cI, 1, .inl f_probe_sets)), (q_probe_struck, .inl (cI, 24, .inl f_probe_struck))] sz) := by
  unfold wp_X3_of at h
  refine Met.ofW (cc := cX3_of) (maxL := 4) (ret := (some .int)) (by decide) rfl ?_
  intro p e s m args below meth c s₁ B hml hv
  obtain ⟨rfl, hsz, hP, hK, hD0, hN⟩ := hv
  have hx := B.exec
  have hb := B.bytes
  have hr := B.returns
  have hts := atoms_spec (ws := wsX3_of) B.pre
  have hown : s.vm.findClass RX3 = some m.cls := findClass_of_methodNamed B.named
  have hlocks := B.notSynchronized
  subst hsz
  have hD := hD0.self (sz := s.heap.size)
  generalize hAe : va_A [(q0, .inr (2, [.ref q_probe, .int v_beats, .int v_rhythm, .int v_mended])), (q_probe, .inr (5, [.ref q_probe_sets, .ref q_probe_struck, .int v_probe_struckCount, .int v_probe_count, .int v_probe_beats, .int v_probe_rhythm])), (q_probe_sets, .inl (cI, 1, .inl f_probe_sets)), (q_probe_struck, .inl (cI, 24, .inl f_probe_struck))] s.heap.size = A at hD ⊢
  have hA : ∀ q : Nat, s.heap.size ≤ q → A q := fun q h => by rw [← hAe]; exact Or.inr h
  clear hAe
  have hS : va_S A s.heap s.heap [] := va_S.rf
  have w66 : ∀ (v_beats : Int32) (v_rhythm : Int32) (v_mended : Int32) (v_probe_struckCount : Int32) (v_probe_count : Int32) (v_probe_beats : Int32) (v_probe_rhythm : Int32) (f_probe_sets : (Nat → Int32)) (f_probe_struck : (Nat → Int32)), wp_X3_of_j66 Q v_beats v_rhythm v_mended v_probe_struckCount v_probe_count v_probe_beats v_probe_rhythm f_probe_sets f_probe_struck → ∀ (H : Heap) (locs : List Loc) (ls : Array Slot), va_P (dC, dI) vwCl [(q0, .inr (2, [.ref q_probe, .int v_beats, .int v_rhythm, .int v_mended])), (q_probe, .inr (5, [.ref q_probe_sets, .ref q_probe_struck, .int v_probe_struckCount, .int v_probe_count, .int v_probe_beats, .int v_probe_rhythm])), (q_probe_sets, .inl (cI, 1, .inl f_probe_sets)), (q_probe_struck, .inl (cI, 24, .inl f_probe_struck))] H → va_D A [(q0, .inr (2, [.ref q_probe, .int v_beats, .int v_rhythm, .int v_mended])), (q_probe, .inr (5, [.ref q_probe_sets, .ref q_probe_struck, .int v_probe_struckCount, .int v_probe_count, .int v_probe_beats, .int v_probe_rhythm])), (q_probe_sets, .inl (cI, 1, .inl f_probe_sets)), (q_probe_struck, .inl (cI, 24, .inl f_probe_struck))] → va_S A s.heap H locs → lv_has ls 4 [(0, .ref q0)] → W p l e (headSpec wsX3_of (rmX3_of)).room s m ([.ref q0, .int p1, .int p2] : List Value).toArray below meth c H locs 0 0 (MQ below (va_Qi (fun (r : Int32) (u : Int32 × Int32 × Int32 × Int32 × Int32 × Int32 × Int32 × (Nat → Int32) × (Nat → Int32)) => Q r u.1 u.2.1 u.2.2.1 u.2.2.2.1 u.2.2.2.2.1 u.2.2.2.2.2.1 u.2.2.2.2.2.2.1 u.2.2.2.2.2.2.2.1 u.2.2.2.2.2.2.2.2) (fun (u : Int32 × Int32 × Int32 × Int32 × Int32 × Int32 × Int32 × (Nat → Int32) × (Nat → Int32)) (t : State) => va_P (dC, dI) vwCl [(q0, .inr (2, [.ref q_probe, .int u.1, .int u.2.1, .int u.2.2.1])), (q_probe, .inr (5, [.ref q_probe_sets, .ref q_probe_struck, .int u.2.2.2.1, .int u.2.2.2.2.1, .int u.2.2.2.2.2.1, .int u.2.2.2.2.2.2.1])), (q_probe_sets, .inl (cI, 1, .inl u.2.2.2.2.2.2.2.1)), (q_probe_struck, .inl (cI, 24, .inl u.2.2.2.2.2.2.2.2))] t.heap ∧ va_D A [(q0, .inr (2, [.ref q_probe, .int u.1, .int u.2.1, .int u.2.2.1])), (q_probe, .inr (5, [.ref q_probe_sets, .ref q_probe_struck, .int u.2.2.2.1, .int u.2.2.2.2.1, .int u.2.2.2.2.2.1, .int u.2.2.2.2.2.2.1])), (q_probe_sets, .inl (cI, 1, .inl u.2.2.2.2.2.2.2.1)), (q_probe_struck, .inl (cI, 24, .inl u.2.2.2.2.2.2.2.2))]) A) ([.ref q0, .int p1, .int p2] : List Value).toArray s 0 0 A) (F0 m 66 ls []) := by
    intro v_beats v_rhythm v_mended v_probe_struckCount v_probe_count v_probe_beats v_probe_rhythm f_probe_sets f_probe_struck h H locs ls hP hD hS hl
    unfold wp_X3_of_j66 at h
    refine lv_aload_n hx hb dX3_of_66 rfl (lv_at hl 0 rfl) ?_
    refine va_get (D := (dC, dI)) (ci := 2) (v := .int v_mended) (C := RX3) (T := TX3) (N := 4) hx hb hts iX3_of_X3 hown hK hP 0 rfl rfl 3 (by decide) (hts (.fieldLink RX3 27 "TilingBeats$Mending" "mended" "I") (by decide +kernel)) (fun _ h9 => h9) rfl dX3_of_67 ?_
    exact W.iret (v := v_mended) hx hb hr (fun t ht hW => ⟨⟨_, (v_beats, v_rhythm, v_mended, v_probe_struckCount, v_probe_count, v_probe_beats, v_probe_rhythm, f_probe_sets, f_probe_struck), rfl, h, by rw [ht]; exact hP, hD⟩, hS.F ht⟩) hS.2.2 dX3_of_70
  have w38 : ∀ (z38 : Nat) (l3 : Int32) (v_beats : Int32) (v_rhythm : Int32) (v_mended : Int32) (v_probe_struckCount : Int32) (v_probe_count : Int32) (v_probe_beats : Int32) (v_probe_rhythm : Int32) (f_probe_sets : (Nat → Int32)) (f_probe_struck : (Nat → Int32)), wp_X3_of_h38 Q z38 l3 v_beats v_rhythm v_mended v_probe_struckCount v_probe_count v_probe_beats v_probe_rhythm f_probe_sets f_probe_struck → ∀ (H : Heap) (locs : List Loc) (ls : Array Slot), va_P (dC, dI) vwCl [(q0, .inr (2, [.ref q_probe, .int v_beats, .int v_rhythm, .int v_mended])), (q_probe, .inr (5, [.ref q_probe_sets, .ref q_probe_struck, .int v_probe_struckCount, .int v_probe_count, .int v_probe_beats, .int v_probe_rhythm])), (q_probe_sets, .inl (cI, 1, .inl f_probe_sets)), (q_probe_struck, .inl (cI, 24, .inl f_probe_struck))] H → va_D A [(q0, .inr (2, [.ref q_probe, .int v_beats, .int v_rhythm, .int v_mended])), (q_probe, .inr (5, [.ref q_probe_sets, .ref q_probe_struck, .int v_probe_struckCount, .int v_probe_count, .int v_probe_beats, .int v_probe_rhythm])), (q_probe_sets, .inl (cI, 1, .inl f_probe_sets)), (q_probe_struck, .inl (cI, 24, .inl f_probe_struck))] → va_S A s.heap H locs → lv_has ls 4 [(0, .ref q0), (3, .int l3)] → W p l e (headSpec wsX3_of (rmX3_of)).room s m ([.ref q0, .int p1, .int p2] : List Value).toArray below meth c H locs 0 0 (MQ below (va_Qi (fun (r : Int32) (u : Int32 × Int32 × Int32 × Int32 × Int32 × Int32 × Int32 × (Nat → Int32) × (Nat → Int32)) => Q r u.1 u.2.1 u.2.2.1 u.2.2.2.1 u.2.2.2.2.1 u.2.2.2.2.2.1 u.2.2.2.2.2.2.1 u.2.2.2.2.2.2.2.1 u.2.2.2.2.2.2.2.2) (fun (u : Int32 × Int32 × Int32 × Int32 × Int32 × Int32 × Int32 × (Nat → Int32) × (Nat → Int32)) (t : State) => va_P (dC, dI) vwCl [(q0, .inr (2, [.ref q_probe, .int u.1, .int u.2.1, .int u.2.2.1])), (q_probe, .inr (5, [.ref q_probe_sets, .ref q_probe_struck, .int u.2.2.2.1, .int u.2.2.2.2.1, .int u.2.2.2.2.2.1, .int u.2.2.2.2.2.2.1])), (q_probe_sets, .inl (cI, 1, .inl u.2.2.2.2.2.2.2.1)), (q_probe_struck, .inl (cI, 24, .inl u.2.2.2.2.2.2.2.2))] t.heap ∧ va_D A [(q0, .inr (2, [.ref q_probe, .int u.1, .int u.2.1, .int u.2.2.1])), (q_probe, .inr (5, [.ref q_probe_sets, .ref q_probe_struck, .int u.2.2.2.1, .int u.2.2.2.2.1, .int u.2.2.2.2.2.1, .int u.2.2.2.2.2.2.1])), (q_probe_sets, .inl (cI, 1, .inl u.2.2.2.2.2.2.2.1)), (q_probe_struck, .inl (cI, 24, .inl u.2.2.2.2.2.2.2.2))]) A) ([.ref q0, .int p1, .int p2] : List Value).toArray s 0 0 A) (F0 m 38 ls []) := by
    intro z38
    induction z38 with
    | zero => intro l3 v_beats v_rhythm v_mended v_probe_struckCount v_probe_count v_probe_beats v_probe_rhythm f_probe_sets f_probe_struck h; unfold wp_X3_of_h38 at h; exact h.elim
    | succ z38 k38 =>
      intro l3 v_beats v_rhythm v_mended v_probe_struckCount v_probe_count v_probe_beats v_probe_rhythm f_probe_sets f_probe_struck h H locs ls hP hD hS hl
      unfold wp_X3_of_h38 at h
      refine lv_iload_n hx hb dX3_of_38 rfl (lv_at hl 1 rfl) ?_
      refine lv_iconst (v := 3) hx hb dX3_of_39 (by decide) ?_
      refine lv_icmp_gt (tgt := 66) hx hb dX3_of_40 (by decide) (fun c1 => ?_) (fun c1 => ?_)
      · replace h := h.1 c1
        exact w66 v_beats v_rhythm v_mended v_probe_struckCount v_probe_count v_probe_beats v_probe_rhythm f_probe_sets f_probe_struck h H locs ls hP hD hS (lv_sub hl [0] rfl)
      · replace h := h.2 c1
        refine lv_aload_n hx hb dX3_of_43 rfl (lv_at hl 0 rfl) ?_
        refine va_get (D := (dC, dI)) (ci := 2) (v := .int v_mended) (C := RX3) (T := TX3) (N := 4) hx hb hts iX3_of_X3 hown hK hP 0 rfl rfl 3 (by decide) (hts (.fieldLink RX3 27 "TilingBeats$Mending" "mended" "I") (by decide +kernel)) (fun _ h9 => h9) rfl dX3_of_44 ?_
        refine lv_iconst (v := (-1)) hx hb dX3_of_47 (by decide) ?_
        refine lv_icmp_ne (tgt := 66) hx hb dX3_of_48 (by decide) (fun c2 => ?_) (fun c2 => ?_)
        · replace h := h.1 c2
          exact w66 v_beats v_rhythm v_mended v_probe_struckCount v_probe_count v_probe_beats v_probe_rhythm f_probe_sets f_probe_struck h H locs ls hP hD hS (lv_sub hl [0] rfl)
        · replace h := h.2 c2
          refine lv_aload_n hx hb dX3_of_51 rfl (lv_at hl 0 rfl) ?_
          refine lv_aload_n hx hb dX3_of_52 rfl (lv_at hl 0 rfl) ?_
          refine lv_iload_n hx hb dX3_of_53 rfl (lv_at hl 1 rfl) ?_
          have hPc := hP.sub (ws' := [(q0, .inr (2, [.ref q_probe, .int v_beats, .int v_rhythm, .int v_mended])), (q_probe, .inr (5, [.ref q_probe_sets, .ref q_probe_struck, .int v_probe_struckCount, .int v_probe_count, .int v_probe_beats, .int v_probe_rhythm])), (q_probe_sets, .inl (cI, 1, .inl f_probe_sets)), (q_probe_struck, .inl (cI, 24, .inl f_probe_struck))]) [0, 1, 2, 3] rfl
          have hDc := hD.sub (ws' := [(q0, .inr (2, [.ref q_probe, .int v_beats, .int v_rhythm, .int v_mended])), (q_probe, .inr (5, [.ref q_probe_sets, .ref q_probe_struck, .int v_probe_struckCount, .int v_probe_count, .int v_probe_beats, .int v_probe_rhythm])), (q_probe_sets, .inl (cI, 1, .inl f_probe_sets)), (q_probe_struck, .inl (cI, 24, .inl f_probe_struck))]) [0, 1, 2, 3] (by decide) rfl
          have hFc := va_free (wc := [(q0, .inr (2, [.ref q_probe, .int v_beats, .int v_rhythm, .int v_mended])), (q_probe, .inr (5, [.ref q_probe_sets, .ref q_probe_struck, .int v_probe_struckCount, .int v_probe_count, .int v_probe_beats, .int v_probe_rhythm])), (q_probe_sets, .inl (cI, 1, .inl f_probe_sets)), (q_probe_struck, .inl (cI, 24, .inl f_probe_struck))]) hD hS hA [0, 1, 2, 3] rfl
          refine va_calli (va_runV (As := [.int l3]) (rest := [.ref q0]) ⟨hx, hb, hml, hown, hts⟩ (c_X3_leastOfSize l dC dI cI cZ q0 q_probe q_probe_sets q_probe_struck H.size v_beats v_rhythm v_mended v_probe_struckCount v_probe_count v_probe_beats v_probe_rhythm f_probe_sets f_probe_struck l3 _ h) (cwV 1 hts gX3_of_X3_leastOfSize rfl rfl rfl (by decide +kernel) ⟨Nat.le_of_ble_eq_true rfl, Nat.le_of_ble_eq_true rfl⟩) ⟨fun a U g mk q => ⟨q.1, q.2.1, q.2.2.1, va_K.moved (u := U) (U := U.calling g mk a) (Vm.Alike.refl U.vm) q.2.2.2.1, q.2.2.2.2.1, nW_call q.2.2.2.2.2⟩, va_recv hK hPc (ci := 2) (q0 := 0) rfl rfl, fun U hU hW => ⟨rfl, by rw [hU], by rw [hU]; exact hPc, va_K.moved hW.alike hK, hDc.weaken (fun _ _ _ _ => trivial), nW_warm hW hN⟩⟩ rfl rfl hl.1 rfl (lv_room (Nat.le_of_ble_eq_true rfl)) dX3_of_54 ⟨Nat.le_of_ble_eq_true rfl, Nat.le_of_ble_eq_true rfl⟩) hS (fun q _ h => hFc q h) hFc (fun r3 u t H1 locs ht hvm hw hB hz1 hk1 hS => ?_)
          obtain ⟨u4, u5, u6, u7, u8, u9⟩ := u
          obtain ⟨hP1, hD1⟩ := hB
          rw [ht] at hP1
          replace h := hw
          try dsimp only at h
          obtain ⟨hP, hD⟩ := va_join (wr := []) (w1 := [(q0, .inr (2, [.ref q_probe, .int v_beats, .int v_rhythm, .int v_mended])), (q_probe, .inr (5, [.ref q_probe_sets, .ref q_probe_struck, .int u4, .int u5, .int u6, .int u7])), (q_probe_sets, .inl (cI, 1, .inl u8)), (q_probe_struck, .inl (cI, 24, .inl u9))]) hP hD [0, 1, 2, 3] [] rfl rfl (by decide) (by decide) hk1 hFc hP1 hD1
          clear hP1 hD1 hFc hDc hPc hk1 hz1 hw hvm ht
          generalize H1 = H at hP hS ⊢
          have hP : va_P (dC, dI) vwCl [(q0, .inr (2, [.ref q_probe, .int v_beats, .int v_rhythm, .int v_mended])), (q_probe, .inr (5, [.ref q_probe_sets, .ref q_probe_struck, .int u4, .int u5, .int u6, .int u7])), (q_probe_sets, .inl (cI, 1, .inl u8)), (q_probe_struck, .inl (cI, 24, .inl u9))] H := hP.sub [0, 1, 2, 3] rfl
          have hD : va_D A [(q0, .inr (2, [.ref q_probe, .int v_beats, .int v_rhythm, .int v_mended])), (q_probe, .inr (5, [.ref q_probe_sets, .ref q_probe_struck, .int u4, .int u5, .int u6, .int u7])), (q_probe_sets, .inl (cI, 1, .inl u8)), (q_probe_struck, .inl (cI, 24, .inl u9))] := hD.sub [0, 1, 2, 3] (by decide) rfl
          refine va_put (D := (dC, dI)) (ci := 2) (v := .int r3) (ty := .int) (C := RX3) (T := TX3) (N := 4) hx hb hts iX3_of_X3 tyX3 tyX3_ok nmX3 hown hK hP hD hS 0 rfl rfl 3 (by decide) (hts (.fieldLink RX3 27 "TilingBeats$Mending" "mended" "I") (by decide +kernel)) (fun _ h9 => h9) rfl (by decide +kernel) rfl rfl (Nat.le_of_ble_eq_true rfl) dX3_of_57 (fun H locs hP hD hS => ?_)
          have hP : va_P (dC, dI) vwCl [(q0, .inr (2, [.ref q_probe, .int v_beats, .int v_rhythm, .int r3])), (q_probe, .inr (5, [.ref q_probe_sets, .ref q_probe_struck, .int u4, .int u5, .int u6, .int u7])), (q_probe_sets, .inl (cI, 1, .inl u8)), (q_probe_struck, .inl (cI, 24, .inl u9))] H := hP
          have hD : va_D A [(q0, .inr (2, [.ref q_probe, .int v_beats, .int v_rhythm, .int r3])), (q_probe, .inr (5, [.ref q_probe_sets, .ref q_probe_struck, .int u4, .int u5, .int u6, .int u7])), (q_probe_sets, .inl (cI, 1, .inl u8)), (q_probe_struck, .inl (cI, 24, .inl u9))] := hD
          obtain ⟨x10, ex10⟩ : ∃ y : Int32, y = l3 + 1 := ⟨_, rfl⟩
          replace h := h x10 ex10
          refine lv_iinc (v := x10) (lv' := [(3, .int x10), (0, .ref q0)]) hx hb dX3_of_60 hl (k := 1) rfl (by rw [ex10]; rfl) (by decide) rfl (fun ls hl => ?_)
          refine lv_goto (tgt := 38) hx hb dX3_of_63 (by decide) ?_
          exact k38 x10 v_beats v_rhythm r3 u4 u5 u6 u7 u8 u9 h H locs ls hP hD hS (lv_sub hl [1, 0] rfl)
  have w21 : ∀ (l1 : Int32) (l2 : Int32) (v_beats : Int32) (v_rhythm : Int32) (v_mended : Int32) (v_probe_struckCount : Int32) (v_probe_count : Int32) (v_probe_beats : Int32) (v_probe_rhythm : Int32) (f_probe_sets : (Nat → Int32)) (f_probe_struck : (Nat → Int32)), wp_X3_of_j21 Q l1 l2 v_beats v_rhythm v_mended v_probe_struckCount v_probe_count v_probe_beats v_probe_rhythm f_probe_sets f_probe_struck → ∀ (H : Heap) (locs : List Loc) (ls : Array Slot), va_P (dC, dI) vwCl [(q0, .inr (2, [.ref q_probe, .int v_beats, .int v_rhythm, .int v_mended])), (q_probe, .inr (5, [.ref q_probe_sets, .ref q_probe_struck, .int v_probe_struckCount, .int v_probe_count, .int v_probe_beats, .int v_probe_rhythm])), (q_probe_sets, .inl (cI, 1, .inl f_probe_sets)), (q_probe_struck, .inl (cI, 24, .inl f_probe_struck))] H → va_D A [(q0, .inr (2, [.ref q_probe, .int v_beats, .int v_rhythm, .int v_mended])), (q_probe, .inr (5, [.ref q_probe_sets, .ref q_probe_struck, .int v_probe_struckCount, .int v_probe_count, .int v_probe_beats, .int v_probe_rhythm])), (q_probe_sets, .inl (cI, 1, .inl f_probe_sets)), (q_probe_struck, .inl (cI, 24, .inl f_probe_struck))] → va_S A s.heap H locs → lv_has ls 4 [(0, .ref q0), (1, .int l1), (2, .int l2)] → W p l e (headSpec wsX3_of (rmX3_of)).room s m ([.ref q0, .int p1, .int p2] : List Value).toArray below meth c H locs 0 0 (MQ below (va_Qi (fun (r : Int32) (u : Int32 × Int32 × Int32 × Int32 × Int32 × Int32 × Int32 × (Nat → Int32) × (Nat → Int32)) => Q r u.1 u.2.1 u.2.2.1 u.2.2.2.1 u.2.2.2.2.1 u.2.2.2.2.2.1 u.2.2.2.2.2.2.1 u.2.2.2.2.2.2.2.1 u.2.2.2.2.2.2.2.2) (fun (u : Int32 × Int32 × Int32 × Int32 × Int32 × Int32 × Int32 × (Nat → Int32) × (Nat → Int32)) (t : State) => va_P (dC, dI) vwCl [(q0, .inr (2, [.ref q_probe, .int u.1, .int u.2.1, .int u.2.2.1])), (q_probe, .inr (5, [.ref q_probe_sets, .ref q_probe_struck, .int u.2.2.2.1, .int u.2.2.2.2.1, .int u.2.2.2.2.2.1, .int u.2.2.2.2.2.2.1])), (q_probe_sets, .inl (cI, 1, .inl u.2.2.2.2.2.2.2.1)), (q_probe_struck, .inl (cI, 24, .inl u.2.2.2.2.2.2.2.2))] t.heap ∧ va_D A [(q0, .inr (2, [.ref q_probe, .int u.1, .int u.2.1, .int u.2.2.1])), (q_probe, .inr (5, [.ref q_probe_sets, .ref q_probe_struck, .int u.2.2.2.1, .int u.2.2.2.2.1, .int u.2.2.2.2.2.1, .int u.2.2.2.2.2.2.1])), (q_probe_sets, .inl (cI, 1, .inl u.2.2.2.2.2.2.2.1)), (q_probe_struck, .inl (cI, 24, .inl u.2.2.2.2.2.2.2.2))]) A) ([.ref q0, .int p1, .int p2] : List Value).toArray s 0 0 A) (F0 m 21 ls []) := by
    intro l1 l2 v_beats v_rhythm v_mended v_probe_struckCount v_probe_count v_probe_beats v_probe_rhythm f_probe_sets f_probe_struck h H locs ls hP hD hS hl
    unfold wp_X3_of_j21 at h
    refine lv_aload_n hx hb dX3_of_21 rfl (lv_at hl 0 rfl) ?_
    refine lv_iload_n hx hb dX3_of_22 rfl (lv_at hl 1 rfl) ?_
    refine va_put (D := (dC, dI)) (ci := 2) (v := .int l1) (ty := .int) (C := RX3) (T := TX3) (N := 4) hx hb hts iX3_of_X3 tyX3 tyX3_ok nmX3 hown hK hP hD hS 0 rfl rfl 1 (by decide) (hts (.fieldLink RX3 20 "TilingBeats$Mending" "beats" "I") (by decide +kernel)) (fun _ h9 => h9) rfl (by decide +kernel) rfl rfl (Nat.le_of_ble_eq_true rfl) dX3_of_23 (fun H locs hP hD hS => ?_)
    have hP : va_P (dC, dI) vwCl [(q0, .inr (2, [.ref q_probe, .int l1, .int v_rhythm, .int v_mended])), (q_probe, .inr (5, [.ref q_probe_sets, .ref q_probe_struck, .int v_probe_struckCount, .int v_probe_count, .int v_probe_beats, .int v_probe_rhythm])), (q_probe_sets, .inl (cI, 1, .inl f_probe_sets)), (q_probe_struck, .inl (cI, 24, .inl f_probe_struck))] H := hP
    have hD : va_D A [(q0, .inr (2, [.ref q_probe, .int l1, .int v_rhythm, .int v_mended])), (q_probe, .inr (5, [.ref q_probe_sets, .ref q_probe_struck, .int v_probe_struckCount, .int v_probe_count, .int v_probe_beats, .int v_probe_rhythm])), (q_probe_sets, .inl (cI, 1, .inl f_probe_sets)), (q_probe_struck, .inl (cI, 24, .inl f_probe_struck))] := hD
    refine lv_aload_n hx hb dX3_of_26 rfl (lv_at hl 0 rfl) ?_
    refine lv_iload_n hx hb dX3_of_27 rfl (lv_at hl 2 rfl) ?_
    refine va_put (D := (dC, dI)) (ci := 2) (v := .int l2) (ty := .int) (C := RX3) (T := TX3) (N := 4) hx hb hts iX3_of_X3 tyX3 tyX3_ok nmX3 hown hK hP hD hS 0 rfl rfl 2 (by decide) (hts (.fieldLink RX3 24 "TilingBeats$Mending" "rhythm" "I") (by decide +kernel)) (fun _ h9 => h9) rfl (by decide +kernel) rfl rfl (Nat.le_of_ble_eq_true rfl) dX3_of_28 (fun H locs hP hD hS => ?_)
    have hP : va_P (dC, dI) vwCl [(q0, .inr (2, [.ref q_probe, .int l1, .int l2, .int v_mended])), (q_probe, .inr (5, [.ref q_probe_sets, .ref q_probe_struck, .int v_probe_struckCount, .int v_probe_count, .int v_probe_beats, .int v_probe_rhythm])), (q_probe_sets, .inl (cI, 1, .inl f_probe_sets)), (q_probe_struck, .inl (cI, 24, .inl f_probe_struck))] H := hP
    have hD : va_D A [(q0, .inr (2, [.ref q_probe, .int l1, .int l2, .int v_mended])), (q_probe, .inr (5, [.ref q_probe_sets, .ref q_probe_struck, .int v_probe_struckCount, .int v_probe_count, .int v_probe_beats, .int v_probe_rhythm])), (q_probe_sets, .inl (cI, 1, .inl f_probe_sets)), (q_probe_struck, .inl (cI, 24, .inl f_probe_struck))] := hD
    refine lv_aload_n hx hb dX3_of_31 rfl (lv_at hl 0 rfl) ?_
    refine lv_iconst (v := (-1)) hx hb dX3_of_32 (by decide) ?_
    refine va_put (D := (dC, dI)) (ci := 2) (v := .int (-1)) (ty := .int) (C := RX3) (T := TX3) (N := 4) hx hb hts iX3_of_X3 tyX3 tyX3_ok nmX3 hown hK hP hD hS 0 rfl rfl 3 (by decide) (hts (.fieldLink RX3 27 "TilingBeats$Mending" "mended" "I") (by decide +kernel)) (fun _ h9 => h9) rfl (by decide +kernel) rfl rfl (Nat.le_of_ble_eq_true rfl) dX3_of_33 (fun H locs hP hD hS => ?_)
    have hP : va_P (dC, dI) vwCl [(q0, .inr (2, [.ref q_probe, .int l1, .int l2, .int (-1)])), (q_probe, .inr (5, [.ref q_probe_sets, .ref q_probe_struck, .int v_probe_struckCount, .int v_probe_count, .int v_probe_beats, .int v_probe_rhythm])), (q_probe_sets, .inl (cI, 1, .inl f_probe_sets)), (q_probe_struck, .inl (cI, 24, .inl f_probe_struck))] H := hP
    have hD : va_D A [(q0, .inr (2, [.ref q_probe, .int l1, .int l2, .int (-1)])), (q_probe, .inr (5, [.ref q_probe_sets, .ref q_probe_struck, .int v_probe_struckCount, .int v_probe_count, .int v_probe_beats, .int v_probe_rhythm])), (q_probe_sets, .inl (cI, 1, .inl f_probe_sets)), (q_probe_struck, .inl (cI, 24, .inl f_probe_struck))] := hD
    refine lv_iconst (v := 0) hx hb dX3_of_36 (by decide) ?_
    refine lv_istore_n (lv' := [(3, .int 0), (0, .ref q0), (1, .int l1), (2, .int l2)]) hx hb dX3_of_37 rfl hl (by decide) rfl (fun ls hl => ?_)
    obtain ⟨k11, h⟩ := h
    exact w38 k11 0 l1 l2 (-1) v_probe_struckCount v_probe_count v_probe_beats v_probe_rhythm f_probe_sets f_probe_struck h H locs ls hP hD hS (lv_sub hl [1, 0] rfl)
  have hl := lv_entry ([.ref q0, .int p1, .int p2]) (n := 4) (Nat.le_of_ble_eq_true rfl)
  rw [lg_entry_eq]
  generalize (lg_sl ([.ref q0, .int p1, .int p2]) ++ List.replicate (4 - (lg_sl ([.ref q0, .int p1, .int p2])).length) Slot.unset).toArray = ls at hl ⊢
  have hl : lv_has ls 4 [(0, .ref q0), (1, .int p1), (2, .int p2)] := hl
  refine lv_iload_n hx hb dX3_of_0 rfl (lv_at hl 1 rfl) ?_
  refine lv_aload_n hx hb dX3_of_1 rfl (lv_at hl 0 rfl) ?_
  refine va_get (D := (dC, dI)) (ci := 2) (v := .int v_beats) (C := RX3) (T := TX3) (N := 4) hx hb hts iX3_of_X3 hown hK hP 0 rfl rfl 1 (by decide) (hts (.fieldLink RX3 20 "TilingBeats$Mending" "beats" "I") (by decide +kernel)) (fun _ h9 => h9) rfl dX3_of_2 ?_
  refine lv_icmp_ne (tgt := 21) hx hb dX3_of_5 (by decide) (fun c12 => ?_) (fun c12 => ?_)
  · replace h := h.1 c12
    exact w21 p1 p2 v_beats v_rhythm v_mended v_probe_struckCount v_probe_count v_probe_beats v_probe_rhythm f_probe_sets f_probe_struck h s.heap [] ls hP hD hS (lv_sub hl [0, 1, 2] rfl)
  · replace h := h.2 c12
    refine lv_iload_n hx hb dX3_of_8 rfl (lv_at hl 2 rfl) ?_
    refine lv_aload_n hx hb dX3_of_9 rfl (lv_at hl 0 rfl) ?_
    refine va_get (D := (dC, dI)) (ci := 2) (v := .int v_rhythm) (C := RX3) (T := TX3) (N := 4) hx hb hts iX3_of_X3 hown hK hP 0 rfl rfl 2 (by decide) (hts (.fieldLink RX3 24 "TilingBeats$Mending" "rhythm" "I") (by decide +kernel)) (fun _ h9 => h9) rfl dX3_of_10 ?_
    refine lv_icmp_ne (tgt := 21) hx hb dX3_of_13 (by decide) (fun c13 => ?_) (fun c13 => ?_)
    · replace h := h.1 c13
      exact w21 p1 p2 v_beats v_rhythm v_mended v_probe_struckCount v_probe_count v_probe_beats v_probe_rhythm f_probe_sets f_probe_struck h s.heap [] ls hP hD hS (lv_sub hl [0, 1, 2] rfl)
    · replace h := h.2 c13
      refine lv_aload_n hx hb dX3_of_16 rfl (lv_at hl 0 rfl) ?_
      refine va_get (D := (dC, dI)) (ci := 2) (v := .int v_mended) (C := RX3) (T := TX3) (N := 4) hx hb hts iX3_of_X3 hown hK hP 0 rfl rfl 3 (by decide) (hts (.fieldLink RX3 27 "TilingBeats$Mending" "mended" "I") (by decide +kernel)) (fun _ h9 => h9) rfl dX3_of_17 ?_
      exact W.iret (v := v_mended) hx hb hr (fun t ht hW => ⟨⟨_, (v_beats, v_rhythm, v_mended, v_probe_struckCount, v_probe_count, v_probe_beats, v_probe_rhythm, f_probe_sets, f_probe_struck), rfl, h, by rw [ht]; exact hP, hD⟩, hS.F ht⟩) hS.2.2 dX3_of_20

def wp_X5_clear (v_next : Int32) (v_count : Int32) (Q : Int32 → Int32 → Prop) : Prop := Q 0 0
abbrev rmX5_clear : Room := { frames := 0, cells := 0, slots := 0, locals := 0 }
set_option maxRecDepth 20000 in
theorem iX5_clear_X5 : ∀ w ∈ wsX50, w ∈ wsX5_clear := by decide +kernel
set_option maxHeartbeats 4000000 in
set_option maxRecDepth 100000 in
theorem c_X5_clear (l : Launch) (dC : Nat → ClassId) (dI : Nat → Nat → Nat) (cI cZ : ClassId) (q0 q_beats q_rhythms : Nat) (sz : Nat) (v_next : Int32) (v_count : Int32)  (Q : Int32 → Int32 → Prop) (h : wp_X5_clear v_next v_count Q) : Met l yX5_clear wsX5_clear (rmX5_clear) (va_Pc [.ref q0] (fun U => U.heap.size = sz ∧ va_P (dC, dI) vwCl [(q0, .inr (3, [.ref q_beats, .ref q_rhythms, .int v_next, .int v_count]))] U.heap ∧ va_K (dC, dI) vwCl (tyZ cI cZ) U ∧ va_D (fun _ => True) [(q0, .inr (3, [.ref q_beats, .ref q_rhythms, .int v_next, .int v_count]))] ∧ nW U)) (va_Qv (fun (u : Int32 × Int32) => Q u.1 u.2) (fun (u : Int32 × Int32) (t : State) => va_P (dC, dI) vwCl [(q0, .inr (3, [.ref q_beats, .ref q_rhythms, .int u.1, .int u.2]))] t.heap ∧ va_D (va_A [(q0, .inr (3, [.ref q_beats, .ref q_rhythms, .int v_next, .int v_count]))] sz) [(q0, .inr (3, [.ref q_beats, .ref q_rhythms, .int u.1, .int u.2]))]) (va_A [(q0, .inr (3, [.ref q_beats, .ref q_rhythms, .int v_next, .int v_count]))] sz)) 0 0 (va_A [(q0, .inr (3, [.ref q_beats, .ref q_rhythms, .int v_next, .int v_count]))] sz) := by
  unfold wp_X5_clear at h
  refine Met.ofW (cc := cX5_clear) (maxL := 1) (ret := none) (by decide) rfl ?_
  intro p e s m args below meth c s₁ B hml hv
  obtain ⟨rfl, hsz, hP, hK, hD0, hN⟩ := hv
  have hx := B.exec
  have hb := B.bytes
  have hr := B.returns
  have hts := atoms_spec (ws := wsX5_clear) B.pre
  have hown : s.vm.findClass RX5 = some m.cls := findClass_of_methodNamed B.named
  have hlocks := B.notSynchronized
  subst hsz
  have hD := hD0.self (sz := s.heap.size)
  generalize hAe : va_A [(q0, .inr (3, [.ref q_beats, .ref q_rhythms, .int v_next, .int v_count]))] s.heap.size = A at hD ⊢
  have hA : ∀ q : Nat, s.heap.size ≤ q → A q := fun q h => by rw [← hAe]; exact Or.inr h
  clear hAe
  have hS : va_S A s.heap s.heap [] := va_S.rf
  have hl := lv_entry ([.ref q0]) (n := 1) (Nat.le_of_ble_eq_true rfl)
  rw [lg_entry_eq]
  generalize (lg_sl ([.ref q0]) ++ List.replicate (1 - (lg_sl ([.ref q0])).length) Slot.unset).toArray = ls at hl ⊢
  have hl : lv_has ls 1 [(0, .ref q0)] := hl
  refine lv_aload_n hx hb dX5_clear_0 rfl (lv_at hl 0 rfl) ?_
  refine lv_iconst (v := 0) hx hb dX5_clear_1 (by decide) ?_
  refine va_put (D := (dC, dI)) (ci := 3) (v := .int 0) (ty := .int) (C := RX5) (T := TX5) (N := 4) hx hb hts iX5_clear_X5 tyX5 tyX5_ok nmX5 hown hK hP hD hS 0 rfl rfl 2 (by decide) (hts (.fieldLink RX5 21 "TilingBeats$Past" "next" "I") (by decide +kernel)) (fun _ h9 => h9) rfl (by decide +kernel) rfl rfl (Nat.le_of_ble_eq_true rfl) dX5_clear_2 (fun H locs hP hD hS => ?_)
  have hP : va_P (dC, dI) vwCl [(q0, .inr (3, [.ref q_beats, .ref q_rhythms, .int 0, .int v_count]))] H := hP
  have hD : va_D A [(q0, .inr (3, [.ref q_beats, .ref q_rhythms, .int 0, .int v_count]))] := hD
  refine lv_aload_n hx hb dX5_clear_5 rfl (lv_at hl 0 rfl) ?_
  refine lv_iconst (v := 0) hx hb dX5_clear_6 (by decide) ?_
  refine va_put (D := (dC, dI)) (ci := 3) (v := .int 0) (ty := .int) (C := RX5) (T := TX5) (N := 4) hx hb hts iX5_clear_X5 tyX5 tyX5_ok nmX5 hown hK hP hD hS 0 rfl rfl 3 (by decide) (hts (.fieldLink RX5 25 "TilingBeats$Past" "count" "I") (by decide +kernel)) (fun _ h9 => h9) rfl (by decide +kernel) rfl rfl (Nat.le_of_ble_eq_true rfl) dX5_clear_7 (fun H locs hP hD hS => ?_)
  have hP : va_P (dC, dI) vwCl [(q0, .inr (3, [.ref q_beats, .ref q_rhythms, .int 0, .int 0]))] H := hP
  have hD : va_D A [(q0, .inr (3, [.ref q_beats, .ref q_rhythms, .int 0, .int 0]))] := hD
  exact W.vret hx hb hr (fun t ht hW => ⟨⟨(0, 0), rfl, h, by rw [ht]; exact hP, hD⟩, hS.F ht⟩) hS.2.2 dX5_clear_10

def wp_X5_place (v_next : Int32) (Q : Int32 → Prop) : Prop := wp_X6_leftOver v_next 30 fun (r1 : Int32) => Q r1
abbrev rmX5_place : Room := { frames := 1, cells := 0, slots := 0, locals := 22 }
set_option maxRecDepth 20000 in
theorem iX5_place_X5 : ∀ w ∈ wsX50, w ∈ wsX5_place := by decide +kernel
set_option maxHeartbeats 4000000 in
set_option maxRecDepth 100000 in
theorem c_X5_place (l : Launch) (dC : Nat → ClassId) (dI : Nat → Nat → Nat) (cI cZ : ClassId) (q0 q_beats q_rhythms : Nat) (v_next : Int32) (v_count : Int32)  (Q : Int32 → Prop) (h : wp_X5_place v_next Q) : Met l yX5_place wsX5_place (rmX5_place) (va_Pc [.ref q0] (fun U => va_P (dC, dI) vwCl [(q0, .inr (3, [.ref q_beats, .ref q_rhythms, .int v_next, .int v_count]))] U.heap ∧ va_K (dC, dI) vwCl (tyZ cI cZ) U ∧ nW U)) (vp_Si Q) 0 0 (fun _ => False) := by
  unfold wp_X5_place at h
  refine Met.ofW (cc := cX5_place) (maxL := 1) (ret := (some .int)) (by decide) rfl ?_
  intro p e s m args below meth c s₁ B hml hv
  obtain ⟨rfl, hP, hK, hN⟩ := hv
  have hx := B.exec
  have hb := B.bytes
  have hr := B.returns
  have hts := atoms_spec (ws := wsX5_place) B.pre
  have hown : s.vm.findClass RX5 = some m.cls := findClass_of_methodNamed B.named
  have hlocks := B.notSynchronized
  have hl := lv_entry ([.ref q0]) (n := 1) (Nat.le_of_ble_eq_true rfl)
  rw [lg_entry_eq]
  generalize (lg_sl ([.ref q0]) ++ List.replicate (1 - (lg_sl ([.ref q0])).length) Slot.unset).toArray = ls at hl ⊢
  have hl : lv_has ls 1 [(0, .ref q0)] := hl
  refine lv_aload_n hx hb dX5_place_0 rfl (lv_at hl 0 rfl) ?_
  refine va_get (D := (dC, dI)) (ci := 3) (v := .int v_next) (C := RX5) (T := TX5) (N := 4) hx hb hts iX5_place_X5 hown hK hP 0 rfl rfl 2 (by decide) (hts (.fieldLink RX5 21 "TilingBeats$Past" "next" "I") (by decide +kernel)) (fun _ h9 => h9) rfl dX5_place_1 ?_
  refine lv_bipush (v := 30) hx hb dX5_place_4 (by decide) ?_
  refine vs_calli (va_runSN (As := [.int v_next, .int 30]) (rest := []) ⟨hx, hb, hml, hown, hts⟩ (c_X6_leftOver l v_next 30 _ h) ⟨va_cnB 2 hts gX5_place_X6_leftOver_n38 rfl rfl rfl (nw_21 hN) (hts (.initialized RX6) (by decide +kernel)) (by decide +kernel) ⟨Nat.le_of_ble_eq_true rfl, Nat.le_of_ble_eq_true rfl⟩, hts (.static yX6_leftOver) (by decide +kernel), trivial⟩ ⟨fun a U g mk q => ⟨q.1, nW_call q.2⟩, fun U hU hW => ⟨rfl, nW_warm hW hN⟩⟩ rfl rfl hl.1 rfl (lv_room (Nat.le_of_ble_eq_true rfl)) dX5_place_6 ⟨Nat.le_of_ble_eq_true rfl, Nat.le_of_ble_eq_true rfl⟩) (fun r1 h => ?_)
  exact W.iret (v := r1) hx hb hr (fun t ht hW => ⟨_, rfl, h, ht⟩) (fun _ h => by cases h) dX5_place_9

def wp_X5_add (v_next : Int32) (v_count : Int32) (f_beats : (Nat → Int32)) (f_rhythms : (Nat → Int32)) (p1 : Int32) (p2 : Int32) (Q : Int32 → Int32 → (Nat → Int32) → (Nat → Int32) → Prop) : Prop := wp_X5_place v_next fun (r1 : Int32) => vp_in r1 30 ∧ ∀ g2 : Nat → Int32, g2 = upd f_beats (r1 : Int32).toNatClampNeg p1 → wp_X5_place v_next fun (r3 : Int32) => vp_in r3 30 ∧ ∀ g4 : Nat → Int32, g4 = upd f_rhythms (r3 : Int32).toNatClampNeg p2 → ∀ x5 : Int32, x5 = (v_next + 1) → ∀ x6 : Int32, x6 = (if 30 < (v_count + 1) then 30 else (v_count + 1)) → Q x5 x6 g2 g4
abbrev rmX5_add : Room := { frames := 2, cells := 0, slots := 0, locals := 42 }
set_option maxRecDepth 20000 in
theorem iX5_add_X5 : ∀ w ∈ wsX50, w ∈ wsX5_add := by decide +kernel
set_option maxHeartbeats 4000000 in
set_option maxRecDepth 100000 in
theorem c_X5_add (l : Launch) (dC : Nat → ClassId) (dI : Nat → Nat → Nat) (cI cZ : ClassId) (q0 q_beats q_rhythms : Nat) (sz : Nat) (v_next : Int32) (v_count : Int32) (f_beats : (Nat → Int32)) (f_rhythms : (Nat → Int32)) (p1 : Int32) (p2 : Int32) (Q : Int32 → Int32 → (Nat → Int32) → (Nat → Int32) → Prop) (h : wp_X5_add v_next v_count f_beats f_rhythms p1 p2 Q) : Met l yX5_add wsX5_add (rmX5_add) (va_Pc [.ref q0, .int p1, .int p2] (fun U => U.heap.size = sz ∧ va_P (dC, dI) vwCl [(q0, .inr (3, [.ref q_beats, .ref q_rhythms, .int v_next, .int v_count])), (q_beats, .inl (cI, 30, .inl f_beats)), (q_rhythms, .inl (cI, 30, .inl f_rhythms))] U.heap ∧ va_K (dC, dI) vwCl (tyZ cI cZ) U ∧ va_D (fun _ => True) [(q0, .inr (3, [.ref q_beats, .ref q_rhythms, .int v_next, .int v_count])), (q_beats, .inl (cI, 30, .inl f_beats)), (q_rhythms, .inl (cI, 30, .inl f_rhythms))] ∧ nW U)) (va_Qv (fun (u : Int32 × Int32 × (Nat → Int32) × (Nat → Int32)) => Q u.1 u.2.1 u.2.2.1 u.2.2.2) (fun (u : Int32 × Int32 × (Nat → Int32) × (Nat → Int32)) (t : State) => va_P (dC, dI) vwCl [(q0, .inr (3, [.ref q_beats, .ref q_rhythms, .int u.1, .int u.2.1])), (q_beats, .inl (cI, 30, .inl u.2.2.1)), (q_rhythms, .inl (cI, 30, .inl u.2.2.2))] t.heap ∧ va_D (va_A [(q0, .inr (3, [.ref q_beats, .ref q_rhythms, .int v_next, .int v_count])), (q_beats, .inl (cI, 30, .inl f_beats)), (q_rhythms, .inl (cI, 30, .inl f_rhythms))] sz) [(q0, .inr (3, [.ref q_beats, .ref q_rhythms, .int u.1, .int u.2.1])), (q_beats, .inl (cI, 30, .inl u.2.2.1)), (q_rhythms, .inl (cI, 30, .inl u.2.2.2))]) (va_A [(q0, .inr (3, [.ref q_beats, .ref q_rhythms, .int v_next, .int v_count])), (q_beats, .inl (cI, 30, .inl f_beats)), (q_rhythms, .inl (cI, 30, .inl f_rhythms))] sz)) 0 0 (va_A [(q0, .inr (3, [.ref q_beats, .ref q_rhythms, .int v_next, .int v_count])), (q_beats, .inl (cI, 30, .inl f_beats)), (q_rhythms, .inl (cI, 30, .inl f_rhythms))] sz) := by
  unfold wp_X5_add at h
  refine Met.ofW (cc := cX5_add) (maxL := 3) (ret := none) (by decide) rfl ?_
  intro p e s m args below meth c s₁ B hml hv
  obtain ⟨rfl, hsz, hP, hK, hD0, hN⟩ := hv
  have hx := B.exec
  have hb := B.bytes
  have hr := B.returns
  have hts := atoms_spec (ws := wsX5_add) B.pre
  have hown : s.vm.findClass RX5 = some m.cls := findClass_of_methodNamed B.named
  have hlocks := B.notSynchronized
  subst hsz
  have hD := hD0.self (sz := s.heap.size)
  generalize hAe : va_A [(q0, .inr (3, [.ref q_beats, .ref q_rhythms, .int v_next, .int v_count])), (q_beats, .inl (cI, 30, .inl f_beats)), (q_rhythms, .inl (cI, 30, .inl f_rhythms))] s.heap.size = A at hD ⊢
  have hA : ∀ q : Nat, s.heap.size ≤ q → A q := fun q h => by rw [← hAe]; exact Or.inr h
  clear hAe
  have hS : va_S A s.heap s.heap [] := va_S.rf
  have hl := lv_entry ([.ref q0, .int p1, .int p2]) (n := 3) (Nat.le_of_ble_eq_true rfl)
  rw [lg_entry_eq]
  generalize (lg_sl ([.ref q0, .int p1, .int p2]) ++ List.replicate (3 - (lg_sl ([.ref q0, .int p1, .int p2])).length) Slot.unset).toArray = ls at hl ⊢
  have hl : lv_has ls 3 [(0, .ref q0), (1, .int p1), (2, .int p2)] := hl
  refine lv_aload_n hx hb dX5_add_0 rfl (lv_at hl 0 rfl) ?_
  refine va_get (D := (dC, dI)) (ci := 3) (v := .ref q_beats) (C := RX5) (T := TX5) (N := 4) hx hb hts iX5_add_X5 hown hK hP 0 rfl rfl 0 (by decide) (hts (.fieldLink RX5 9 "TilingBeats$Past" "beats" "[I") (by decide +kernel)) (fun _ h9 => h9) rfl dX5_add_1 ?_
  refine lv_aload_n hx hb dX5_add_4 rfl (lv_at hl 0 rfl) ?_
  have hPc := hP.sub (ws' := [(q0, .inr (3, [.ref q_beats, .ref q_rhythms, .int v_next, .int v_count]))]) [0] rfl
  refine vs_calli (va_runV (As := []) (rest := [.ref q_beats]) ⟨hx, hb, hml, hown, hts⟩ (c_X5_place l dC dI cI cZ q0 q_beats q_rhythms v_next v_count  _ h) (cwV 0 hts gX5_add_X5_place rfl rfl rfl (by decide +kernel) ⟨Nat.le_of_ble_eq_true rfl, Nat.le_of_ble_eq_true rfl⟩) ⟨fun a U g mk q => ⟨q.1, q.2.1, va_K.moved (u := U) (U := U.calling g mk a) (Vm.Alike.refl U.vm) q.2.2.1, nW_call q.2.2.2⟩, va_recv hK hPc (ci := 3) (q0 := 0) rfl rfl, fun U hU hW => ⟨rfl, by rw [hU]; exact hPc, va_K.moved hW.alike hK, nW_warm hW hN⟩⟩ rfl rfl hl.1 rfl (lv_room (Nat.le_of_ble_eq_true rfl)) dX5_add_5 ⟨Nat.le_of_ble_eq_true rfl, Nat.le_of_ble_eq_true rfl⟩) (fun r1 h => ?_)
  refine lv_iload_n hx hb dX5_add_8 rfl (lv_at hl 1 rfl) ?_
  refine va_iast (D := (dC, dI)) hx hb hK hP hD hS 1 0 rfl rfl h.1 dX5_add_9 (fun H locs hP hD hS => ?_)
  obtain ⟨g2, eg2⟩ : ∃ y : Nat → Int32, y = upd f_beats (r1 : Int32).toNatClampNeg p1 := ⟨_, rfl⟩
  replace h := h.2 g2 eg2
  rw [← eg2] at hP hD
  have hP : va_P (dC, dI) vwCl [(q0, .inr (3, [.ref q_beats, .ref q_rhythms, .int v_next, .int v_count])), (q_beats, .inl (cI, 30, .inl g2)), (q_rhythms, .inl (cI, 30, .inl f_rhythms))] H := hP
  have hD : va_D A [(q0, .inr (3, [.ref q_beats, .ref q_rhythms, .int v_next, .int v_count])), (q_beats, .inl (cI, 30, .inl g2)), (q_rhythms, .inl (cI, 30, .inl f_rhythms))] := hD
  refine lv_aload_n hx hb dX5_add_10 rfl (lv_at hl 0 rfl) ?_
  refine va_get (D := (dC, dI)) (ci := 3) (v := .ref q_rhythms) (C := RX5) (T := TX5) (N := 4) hx hb hts iX5_add_X5 hown hK hP 0 rfl rfl 1 (by decide) (hts (.fieldLink RX5 15 "TilingBeats$Past" "rhythms" "[I") (by decide +kernel)) (fun _ h9 => h9) rfl dX5_add_11 ?_
  refine lv_aload_n hx hb dX5_add_14 rfl (lv_at hl 0 rfl) ?_
  have hPc := hP.sub (ws' := [(q0, .inr (3, [.ref q_beats, .ref q_rhythms, .int v_next, .int v_count]))]) [0] rfl
  refine vs_calli (va_runV (As := []) (rest := [.ref q_rhythms]) ⟨hx, hb, hml, hown, hts⟩ (c_X5_place l dC dI cI cZ q0 q_beats q_rhythms v_next v_count  _ h) (cwV 0 hts gX5_add_X5_place rfl rfl rfl (by decide +kernel) ⟨Nat.le_of_ble_eq_true rfl, Nat.le_of_ble_eq_true rfl⟩) ⟨fun a U g mk q => ⟨q.1, q.2.1, va_K.moved (u := U) (U := U.calling g mk a) (Vm.Alike.refl U.vm) q.2.2.1, nW_call q.2.2.2⟩, va_recv hK hPc (ci := 3) (q0 := 0) rfl rfl, fun U hU hW => ⟨rfl, by rw [hU]; exact hPc, va_K.moved hW.alike hK, nW_warm hW hN⟩⟩ rfl rfl hl.1 rfl (lv_room (Nat.le_of_ble_eq_true rfl)) dX5_add_15 ⟨Nat.le_of_ble_eq_true rfl, Nat.le_of_ble_eq_true rfl⟩) (fun r3 h => ?_)
  refine lv_iload_n hx hb dX5_add_18 rfl (lv_at hl 2 rfl) ?_
  refine va_iast (D := (dC, dI)) hx hb hK hP hD hS 2 0 rfl rfl h.1 dX5_add_19 (fun H locs hP hD hS => ?_)
  obtain ⟨g4, eg4⟩ : ∃ y : Nat → Int32, y = upd f_rhythms (r3 : Int32).toNatClampNeg p2 := ⟨_, rfl⟩
  replace h := h.2 g4 eg4
  rw [← eg4] at hP hD
  have hP : va_P (dC, dI) vwCl [(q0, .inr (3, [.ref q_beats, .ref q_rhythms, .int v_next, .int v_count])), (q_beats, .inl (cI, 30, .inl g2)), (q_rhythms, .inl (cI, 30, .inl g4))] H := hP
  have hD : va_D A [(q0, .inr (3, [.ref q_beats, .ref q_rhythms, .int v_next, .int v_count])), (q_beats, .inl (cI, 30, .inl g2)), (q_rhythms, .inl (cI, 30, .inl g4))] := hD
  refine lv_aload_n hx hb dX5_add_20 rfl (lv_at hl 0 rfl) ?_
  refine lv_dup hx hb dX5_add_21 rfl ?_
  refine va_get (D := (dC, dI)) (ci := 3) (v := .int v_next) (C := RX5) (T := TX5) (N := 4) hx hb hts iX5_add_X5 hown hK hP 0 rfl rfl 2 (by decide) (hts (.fieldLink RX5 21 "TilingBeats$Past" "next" "I") (by decide +kernel)) (fun _ h9 => h9) rfl dX5_add_22 ?_
  refine lv_iconst (v := 1) hx hb dX5_add_25 (by decide) ?_
  refine lv_iadd hx hb dX5_add_26 ?_
  refine lv_topi (fun x5 ex5 => ?_)
  replace h := h x5 ex5
  refine va_put (D := (dC, dI)) (ci := 3) (v := .int x5) (ty := .int) (C := RX5) (T := TX5) (N := 4) hx hb hts iX5_add_X5 tyX5 tyX5_ok nmX5 hown hK hP hD hS 0 rfl rfl 2 (by decide) (hts (.fieldLink RX5 21 "TilingBeats$Past" "next" "I") (by decide +kernel)) (fun _ h9 => h9) rfl (by decide +kernel) rfl rfl (Nat.le_of_ble_eq_true rfl) dX5_add_27 (fun H locs hP hD hS => ?_)
  have hP : va_P (dC, dI) vwCl [(q0, .inr (3, [.ref q_beats, .ref q_rhythms, .int x5, .int v_count])), (q_beats, .inl (cI, 30, .inl g2)), (q_rhythms, .inl (cI, 30, .inl g4))] H := hP
  have hD : va_D A [(q0, .inr (3, [.ref q_beats, .ref q_rhythms, .int x5, .int v_count])), (q_beats, .inl (cI, 30, .inl g2)), (q_rhythms, .inl (cI, 30, .inl g4))] := hD
  refine lv_aload_n hx hb dX5_add_30 rfl (lv_at hl 0 rfl) ?_
  refine lv_aload_n hx hb dX5_add_31 rfl (lv_at hl 0 rfl) ?_
  refine va_get (D := (dC, dI)) (ci := 3) (v := .int v_count) (C := RX5) (T := TX5) (N := 4) hx hb hts iX5_add_X5 hown hK hP 0 rfl rfl 3 (by decide) (hts (.fieldLink RX5 25 "TilingBeats$Past" "count" "I") (by decide +kernel)) (fun _ h9 => h9) rfl dX5_add_32 ?_
  refine lv_iconst (v := 1) hx hb dX5_add_35 (by decide) ?_
  refine lv_iadd hx hb dX5_add_36 ?_
  refine lv_bipush (v := 30) hx hb dX5_add_37 (by decide) ?_
  refine va_mmin hx hb (by rw [hml]; exact hl.1.symm) hown (hts (.methodLink RX5 32 Lib.Math.min.name) (by decide +kernel)) (hts (.static Lib.Math.min.name) (by decide +kernel)) (hts (.initialized "java/lang/Math") (by decide +kernel)) (hts (.code Lib.Math.min.name Lib.Math.min.code 2 (some .int)) (by decide +kernel)) (Nat.le_of_ble_eq_true rfl) (Nat.le_of_ble_eq_true rfl) (Nat.le_of_ble_eq_true rfl) (Nat.le_of_ble_eq_true rfl) dX5_add_39 ?_
  refine lv_topi (fun x6 ex6 => ?_)
  replace h := h x6 ex6
  refine va_put (D := (dC, dI)) (ci := 3) (v := .int x6) (ty := .int) (C := RX5) (T := TX5) (N := 4) hx hb hts iX5_add_X5 tyX5 tyX5_ok nmX5 hown hK hP hD hS 0 rfl rfl 3 (by decide) (hts (.fieldLink RX5 25 "TilingBeats$Past" "count" "I") (by decide +kernel)) (fun _ h9 => h9) rfl (by decide +kernel) rfl rfl (Nat.le_of_ble_eq_true rfl) dX5_add_42 (fun H locs hP hD hS => ?_)
  have hP : va_P (dC, dI) vwCl [(q0, .inr (3, [.ref q_beats, .ref q_rhythms, .int x5, .int x6])), (q_beats, .inl (cI, 30, .inl g2)), (q_rhythms, .inl (cI, 30, .inl g4))] H := hP
  have hD : va_D A [(q0, .inr (3, [.ref q_beats, .ref q_rhythms, .int x5, .int x6])), (q_beats, .inl (cI, 30, .inl g2)), (q_rhythms, .inl (cI, 30, .inl g4))] := hD
  exact W.vret hx hb hr (fun t ht hW => ⟨⟨(x5, x6, g2, g4), rfl, h, by rw [ht]; exact hP, hD⟩, hS.F ht⟩) hS.2.2 dX5_add_45
