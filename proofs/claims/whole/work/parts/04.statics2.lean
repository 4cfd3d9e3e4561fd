def wp_X4_valueTurned (p0 : Int32) (p1 : Int32) (p2 : Int32) (Q : Int32 → Prop) : Prop := wp_X6_moved p0 p1 (-p2) fun (r1 : Int32) => Q r1
abbrev rmX4_valueTurned : Room := { frames := 2, cells := 0, slots := 0, locals := 45 }
set_option maxHeartbeats 4000000 in
set_option maxRecDepth 100000 in
theorem c_X4_valueTurned (l : Launch) (p0 : Int32) (p1 : Int32) (p2 : Int32) (Q : Int32 → Prop) (h : wp_X4_valueTurned p0 p1 p2 Q) : Met l yX4_valueTurned wsX4_valueTurned (rmX4_valueTurned) (va_Pc [.int p0, .int p1, .int p2] (fun U => nW U)) (vp_Si Q) 0 0 (fun _ => False) := by
  unfold wp_X4_valueTurned at h
  refine Met.ofW (cc := cX4_valueTurned) (maxL := 3) (ret := (some .int)) (by decide) rfl ?_
  intro p e s m args below meth c s₁ B hml hv
  obtain ⟨rfl, hN⟩ := hv
  have hx := B.exec
  have hb := B.bytes
  have hr := B.returns
  have hts := atoms_spec (ws := wsX4_valueTurned) B.pre
  have hown : s.vm.findClass RX4 = some m.cls := findClass_of_methodNamed B.named
  have hlocks := B.notSynchronized
  have hl := lv_entry ([.int p0, .int p1, .int p2]) (n := 3) (Nat.le_of_ble_eq_true rfl)
  rw [lg_entry_eq]
  generalize (lg_sl ([.int p0, .int p1, .int p2]) ++ List.replicate (3 - (lg_sl ([.int p0, .int p1, .int p2])).length) Slot.unset).toArray = ls at hl ⊢
  have hl : lv_has ls 3 [(0, .int p0), (1, .int p1), (2, .int p2)] := hl
  refine lv_iload_n hx hb dX4_valueTurned_0 rfl (lv_at hl 0 rfl) ?_
  refine lv_iload_n hx hb dX4_valueTurned_1 rfl (lv_at hl 1 rfl) ?_
  refine lv_iload_n hx hb dX4_valueTurned_2 rfl (lv_at hl 2 rfl) ?_
  refine lv_ineg hx hb dX4_valueTurned_3 ?_
  refine vs_calli (va_runSN (As := [.int p0, .int p1, .int (-p2)]) (rest := []) ⟨hx, hb, hml, hown, hts⟩ (c_X6_moved l p0 p1 (-p2) _ h) ⟨va_cnB 3 hts gX4_valueTurned_X6_moved_n15 rfl rfl rfl (nw_32 hN) (hts (.initialized RX6) (by decide +kernel)) (by decide +kernel) ⟨Nat.le_of_ble_eq_true rfl, Nat.le_of_ble_eq_true rfl⟩, hts (.static yX6_moved) (by decide +kernel), trivial⟩ ⟨fun a U g mk q => ⟨q.1, nW_call q.2⟩, fun U hU hW => ⟨rfl, nW_warm hW hN⟩⟩ rfl rfl hl.1 rfl (lv_room (Nat.le_of_ble_eq_true rfl)) dX4_valueTurned_4 ⟨Nat.le_of_ble_eq_true rfl, Nat.le_of_ble_eq_true rfl⟩) (fun r1 h => ?_)
  exact W.iret (v := r1) hx hb hr (fun t ht hW => ⟨_, rfl, h, ht⟩) (fun _ h => by cases h) dX4_valueTurned_7

def wp_X4_leastTurn_j43 (L14 : Int32 → Int32 → Int32 → Int32 → Int32 → Prop) (Q : Int32 → Prop) (l0 : Int32) (l2 : Int32) (l3 : Int32) (l4 : Int32) (l5 : Int32) : Prop := ∀ x1 : Int32, x1 = l5 + 1 → L14 l0 l2 l3 l4 x1
def wp_X4_leastTurn_h14 (Q : Int32 → Prop) : Nat → Int32 → Int32 → Int32 → Int32 → Int32 → Prop
  | 0, _, _, _, _, _ => False
  | z14 + 1, l0, l2, l3, l4, l5 => (l0 ≤ l5 → (Q l3)) ∧ (¬ l0 ≤ l5 → (wp_X4_valueTurned l0 l2 l5 fun (r3 : Int32) => (l4 ≤ r3 → (wp_X4_leastTurn_j43 (wp_X4_leastTurn_h14 Q z14) Q l0 l2 l3 l4 l5)) ∧ (¬ l4 ≤ r3 → (wp_X4_leastTurn_j43 (wp_X4_leastTurn_h14 Q z14) Q l0 l2 l5 r3 l5))))
def wp_X4_leastTurn (p0 : Int32) (p1 : Int32) (Q : Int32 → Prop) : Prop := wp_X4_value p0 p1 fun (r5 : Int32) => ∃ k6 : Nat, wp_X4_leastTurn_h14 Q k6 p0 r5 0 r5 1
abbrev rmX4_leastTurn : Room := { frames := 3, cells := 0, slots := 0, locals := 67 }
set_option maxHeartbeats 4000000 in
set_option maxRecDepth 100000 in
theorem c_X4_leastTurn (l : Launch) (p0 : Int32) (p1 : Int32) (Q : Int32 → Prop) (h : wp_X4_leastTurn p0 p1 Q) : Met l yX4_leastTurn wsX4_leastTurn (rmX4_leastTurn) (va_Pc [.int p0, .int p1] (fun U => nW U)) (vp_Si Q) 0 0 (fun _ => False) := by
  unfold wp_X4_leastTurn at h
  refine Met.ofW (cc := cX4_leastTurn) (maxL := 7) (ret := (some .int)) (by decide) rfl ?_
  intro p e s m args below meth c s₁ B hml hv
  obtain ⟨rfl, hN⟩ := hv
  have hx := B.exec
  have hb := B.bytes
  have hr := B.returns
  have hts := atoms_spec (ws := wsX4_leastTurn) B.pre
  have hown : s.vm.findClass RX4 = some m.cls := findClass_of_methodNamed B.named
  have hlocks := B.notSynchronized
  have w14 : ∀ (z14 : Nat) (l0 : Int32) (l2 : Int32) (l3 : Int32) (l4 : Int32) (l5 : Int32), wp_X4_leastTurn_h14 Q z14 l0 l2 l3 l4 l5 → ∀ (ls : Array Slot), lv_has ls 7 [(0, .int l0), (2, .int l2), (3, .int l3), (4, .int l4), (5, .int l5)] → W p l e (headSpec wsX4_leastTurn (rmX4_leastTurn)).room s m ([.int p0, .int p1] : List Value).toArray below meth c s.heap [] 0 0 (MQ below (vp_Si Q) ([.int p0, .int p1] : List Value).toArray s 0 0 (fun _ => False)) (F0 m 14 ls []) := by
    intro z14
    induction z14 with
    | zero => intro l0 l2 l3 l4 l5 h; unfold wp_X4_leastTurn_h14 at h; exact h.elim
    | succ z14 k14 =>
      have w43 : ∀ (l0 : Int32) (l2 : Int32) (l3 : Int32) (l4 : Int32) (l5 : Int32), wp_X4_leastTurn_j43 (wp_X4_leastTurn_h14 Q z14) Q l0 l2 l3 l4 l5 → ∀ (ls : Array Slot), lv_has ls 7 [(0, .int l0), (2, .int l2), (3, .int l3), (4, .int l4), (5, .int l5)] → W p l e (headSpec wsX4_leastTurn (rmX4_leastTurn)).room s m ([.int p0, .int p1] : List Value).toArray below meth c s.heap [] 0 0 (MQ below (vp_Si Q) ([.int p0, .int p1] : List Value).toArray s 0 0 (fun _ => False)) (F0 m 43 ls []) := by
        intro l0 l2 l3 l4 l5 h ls hl
        unfold wp_X4_leastTurn_j43 at h
        obtain ⟨x1, ex1⟩ : ∃ y : Int32, y = l5 + 1 := ⟨_, rfl⟩
        replace h := h x1 ex1
        refine lv_iinc (v := x1) (lv' := [(5, .int x1), (0, .int l0), (2, .int l2), (3, .int l3), (4, .int l4)]) hx hb dX4_leastTurn_43 hl (k := 4) rfl (by rw [ex1]; rfl) (by decide) rfl (fun ls hl => ?_)
        refine lv_goto (tgt := 14) hx hb dX4_leastTurn_46 (by decide) ?_
        exact k14 l0 l2 l3 l4 x1 h ls (lv_sub hl [1, 2, 3, 4, 0] rfl)
      intro l0 l2 l3 l4 l5 h ls hl
      unfold wp_X4_leastTurn_h14 at h
      refine lv_iload hx hb dX4_leastTurn_14 (lv_at hl 4 rfl) ?_
      refine lv_iload_n hx hb dX4_leastTurn_16 rfl (lv_at hl 0 rfl) ?_
      refine lv_icmp_ge (tgt := 49) hx hb dX4_leastTurn_17 (by decide) (fun c2 => ?_) (fun c2 => ?_)
      · replace h := h.1 c2
        refine lv_iload_n hx hb dX4_leastTurn_49 rfl (lv_at hl 2 rfl) ?_
        exact W.iret (v := l3) hx hb hr (fun t ht hW => ⟨_, rfl, h, ht⟩) (fun _ h => by cases h) dX4_leastTurn_50
      · replace h := h.2 c2
        refine lv_iload_n hx hb dX4_leastTurn_20 rfl (lv_at hl 0 rfl) ?_
        refine lv_iload_n hx hb dX4_leastTurn_21 rfl (lv_at hl 1 rfl) ?_
        refine lv_iload hx hb dX4_leastTurn_22 (lv_at hl 4 rfl) ?_
        refine vs_calli (va_runS (As := [.int l0, .int l2, .int l5]) (rest := []) ⟨hx, hb, hml, hown, hts⟩ (c_X4_valueTurned l l0 l2 l5 _ h) (va_cwS 3 hts gX4_leastTurn_X4_valueTurned rfl rfl rfl (by decide +kernel) ⟨Nat.le_of_ble_eq_true rfl, Nat.le_of_ble_eq_true rfl⟩) ⟨fun a U g mk q => ⟨q.1, nW_call q.2⟩, fun U hU hW => ⟨rfl, nW_warm hW hN⟩⟩ rfl rfl hl.1 rfl (lv_room (Nat.le_of_ble_eq_true rfl)) dX4_leastTurn_24 ⟨Nat.le_of_ble_eq_true rfl, Nat.le_of_ble_eq_true rfl⟩) (fun r3 h => ?_)
        refine lv_istore (lv' := [(6, .int r3), (0, .int l0), (2, .int l2), (3, .int l3), (4, .int l4), (5, .int l5)]) hx hb dX4_leastTurn_27 hl (by decide) rfl (fun ls hl => ?_)
        refine lv_iload hx hb dX4_leastTurn_29 (lv_at hl 0 rfl) ?_
        refine lv_iload hx hb dX4_leastTurn_31 (lv_at hl 4 rfl) ?_
        refine lv_icmp_ge (tgt := 43) hx hb dX4_leastTurn_33 (by decide) (fun c4 => ?_) (fun c4 => ?_)
        · replace h := h.1 c4
          exact w43 l0 l2 l3 l4 l5 h ls (lv_sub hl [1, 2, 3, 4, 5] rfl)
        · replace h := h.2 c4
          refine lv_iload hx hb dX4_leastTurn_36 (lv_at hl 5 rfl) ?_
          refine lv_istore_n (lv' := [(3, .int l5), (6, .int r3), (0, .int l0), (2, .int l2), (4, .int l4), (5, .int l5)]) hx hb dX4_leastTurn_38 rfl hl (by decide) rfl (fun ls hl => ?_)
          refine lv_iload hx hb dX4_leastTurn_39 (lv_at hl 1 rfl) ?_
          refine lv_istore (lv' := [(4, .int r3), (3, .int l5), (6, .int r3), (0, .int l0), (2, .int l2), (5, .int l5)]) hx hb dX4_leastTurn_41 hl (by decide) rfl (fun ls hl => ?_)
          exact w43 l0 l2 l5 r3 l5 h ls (lv_sub hl [3, 4, 1, 0, 5] rfl)
  have hl := lv_entry ([.int p0, .int p1]) (n := 7) (Nat.le_of_ble_eq_true rfl)
  rw [lg_entry_eq]
  generalize (lg_sl ([.int p0, .int p1]) ++ List.replicate (7 - (lg_sl ([.int p0, .int p1])).length) Slot.unset).toArray = ls at hl ⊢
  have hl : lv_has ls 7 [(0, .int p0), (1, .int p1)] := hl
  refine lv_iload_n hx hb dX4_leastTurn_0 rfl (lv_at hl 0 rfl) ?_
  refine lv_iload_n hx hb dX4_leastTurn_1 rfl (lv_at hl 1 rfl) ?_
  refine vs_calli (va_runS (As := [.int p0, .int p1]) (rest := []) ⟨hx, hb, hml, hown, hts⟩ (c_X4_value l p0 p1 _ h) (va_cwS 2 hts gX4_leastTurn_X4_value rfl rfl rfl (by decide +kernel) ⟨Nat.le_of_ble_eq_true rfl, Nat.le_of_ble_eq_true rfl⟩) ⟨fun a U g mk q => ⟨q.1, nW_call q.2⟩, fun U hU hW => ⟨rfl, nW_warm hW hN⟩⟩ rfl rfl hl.1 rfl (lv_room (Nat.le_of_ble_eq_true rfl)) dX4_leastTurn_2 ⟨Nat.le_of_ble_eq_true rfl, Nat.le_of_ble_eq_true rfl⟩) (fun r5 h => ?_)
  refine lv_istore_n (lv' := [(2, .int r5), (0, .int p0), (1, .int p1)]) hx hb dX4_leastTurn_5 rfl hl (by decide) rfl (fun ls hl => ?_)
  refine lv_iconst (v := 0) hx hb dX4_leastTurn_6 (by decide) ?_
  refine lv_istore_n (lv' := [(3, .int 0), (2, .int r5), (0, .int p0), (1, .int p1)]) hx hb dX4_leastTurn_7 rfl hl (by decide) rfl (fun ls hl => ?_)
  refine lv_iload_n hx hb dX4_leastTurn_8 rfl (lv_at hl 1 rfl) ?_
  refine lv_istore (lv' := [(4, .int r5), (3, .int 0), (2, .int r5), (0, .int p0), (1, .int p1)]) hx hb dX4_leastTurn_9 hl (by decide) rfl (fun ls hl => ?_)
  refine lv_iconst (v := 1) hx hb dX4_leastTurn_11 (by decide) ?_
  refine lv_istore (lv' := [(5, .int 1), (4, .int r5), (3, .int 0), (2, .int r5), (0, .int p0), (1, .int p1)]) hx hb dX4_leastTurn_12 hl (by decide) rfl (fun ls hl => ?_)
  obtain ⟨k6, h⟩ := h
  exact w14 k6 p0 r5 0 r5 1 h ls (lv_sub hl [4, 3, 2, 1, 0] rfl)

def wp_X4_least (p0 : Int32) (p1 : Int32) (Q : Int32 → Prop) : Prop := wp_X4_value p0 p1 fun (r1 : Int32) => wp_X4_leastTurn p0 p1 fun (r2 : Int32) => wp_X4_valueTurned p0 r1 r2 fun (r3 : Int32) => Q r3
abbrev rmX4_least : Room := { frames := 4, cells := 0, slots := 0, locals := 93 }
set_option maxHeartbeats 4000000 in
set_option maxRecDepth 100000 in
theorem c_X4_least (l : Launch) (p0 : Int32) (p1 : Int32) (Q : Int32 → Prop) (h : wp_X4_least p0 p1 Q) : Met l yX4_least wsX4_least (rmX4_least) (va_Pc [.int p0, .int p1] (fun U => nW U)) (vp_Si Q) 0 0 (fun _ => False) := by
  unfold wp_X4_least at h
  refine Met.ofW (cc := cX4_least) (maxL := 2) (ret := (some .int)) (by decide) rfl ?_
  intro p e s m args below meth c s₁ B hml hv
  obtain ⟨rfl, hN⟩ := hv
  have hx := B.exec
  have hb := B.bytes
  have hr := B.returns
  have hts := atoms_spec (ws := wsX4_least) B.pre
  have hown : s.vm.findClass RX4 = some m.cls := findClass_of_methodNamed B.named
  have hlocks := B.notSynchronized
  have hl := lv_entry ([.int p0, .int p1]) (n := 2) (Nat.le_of_ble_eq_true rfl)
  rw [lg_entry_eq]
  generalize (lg_sl ([.int p0, .int p1]) ++ List.replicate (2 - (lg_sl ([.int p0, .int p1])).length) Slot.unset).toArray = ls at hl ⊢
  have hl : lv_has ls 2 [(0, .int p0), (1, .int p1)] := hl
  refine lv_iload_n hx hb dX4_least_0 rfl (lv_at hl 0 rfl) ?_
  refine lv_iload_n hx hb dX4_least_1 rfl (lv_at hl 0 rfl) ?_
  refine lv_iload_n hx hb dX4_least_2 rfl (lv_at hl 1 rfl) ?_
  refine vs_calli (va_runS (As := [.int p0, .int p1]) (rest := [.int p0]) ⟨hx, hb, hml, hown, hts⟩ (c_X4_value l p0 p1 _ h) (va_cwS 2 hts gX4_least_X4_value rfl rfl rfl (by decide +kernel) ⟨Nat.le_of_ble_eq_true rfl, Nat.le_of_ble_eq_true rfl⟩) ⟨fun a U g mk q => ⟨q.1, nW_call q.2⟩, fun U hU hW => ⟨rfl, nW_warm hW hN⟩⟩ rfl rfl hl.1 rfl (lv_room (Nat.le_of_ble_eq_true rfl)) dX4_least_3 ⟨Nat.le_of_ble_eq_true rfl, Nat.le_of_ble_eq_true rfl⟩) (fun r1 h => ?_)
  refine lv_iload_n hx hb dX4_least_6 rfl (lv_at hl 0 rfl) ?_
  refine lv_iload_n hx hb dX4_least_7 rfl (lv_at hl 1 rfl) ?_
  refine vs_calli (va_runS (As := [.int p0, .int p1]) (rest := [.int r1, .int p0]) ⟨hx, hb, hml, hown, hts⟩ (c_X4_leastTurn l p0 p1 _ h) (va_cwS 2 hts gX4_least_X4_leastTurn rfl rfl rfl (by decide +kernel) ⟨Nat.le_of_ble_eq_true rfl, Nat.le_of_ble_eq_true rfl⟩) ⟨fun a U g mk q => ⟨q.1, nW_call q.2⟩, fun U hU hW => ⟨rfl, nW_warm hW hN⟩⟩ rfl rfl hl.1 rfl (lv_room (Nat.le_of_ble_eq_true rfl)) dX4_least_8 ⟨Nat.le_of_ble_eq_true rfl, Nat.le_of_ble_eq_true rfl⟩) (fun r2 h => ?_)
  refine vs_calli (va_runS (As := [.int p0, .int r1, .int r2]) (rest := []) ⟨hx, hb, hml, hown, hts⟩ (c_X4_valueTurned l p0 r1 r2 _ h) (va_cwS 3 hts gX4_least_X4_valueTurned rfl rfl rfl (by decide +kernel) ⟨Nat.le_of_ble_eq_true rfl, Nat.le_of_ble_eq_true rfl⟩) ⟨fun a U g mk q => ⟨q.1, nW_call q.2⟩, fun U hU hW => ⟨rfl, nW_warm hW hN⟩⟩ rfl rfl hl.1 rfl (lv_room (Nat.le_of_ble_eq_true rfl)) dX4_least_11 ⟨Nat.le_of_ble_eq_true rfl, Nat.le_of_ble_eq_true rfl⟩) (fun r3 h => ?_)
  exact W.iret (v := r3) hx hb hr (fun t ht hW => ⟨_, rfl, h, ht⟩) (fun _ h => by cases h) dX4_least_14

def wp_X4_completed_j22 (wrec : Int32 → Int32 → Int32 → Int32 → Int32 → (Int32 → Prop) → Prop) (Q : Int32 → Prop)  : Prop := Q (-1)
def wp_X4_completed_j43 (wrec : Int32 → Int32 → Int32 → Int32 → Int32 → (Int32 → Prop) → Prop) (Q : Int32 → Prop) (s0 : Int32) : Prop := Q s0
def wp_X4_completed_j121 (wrec : Int32 → Int32 → Int32 → Int32 → Int32 → (Int32 → Prop) → Prop) (Q : Int32 → Prop) (s0 : Int32) : Prop := Q s0
def wb_X4_completed (wrec : Int32 → Int32 → Int32 → Int32 → Int32 → (Int32 → Prop) → Prop) (p0 : Int32) (p1 : Int32) (p2 : Int32) (p3 : Int32) (p4 : Int32) (Q : Int32 → Prop) : Prop := wp_J6_bitCount_0f7a4 p2 fun (r1 : Int32) => (p1 < r1 → (wp_X4_completed_j22 wrec Q )) ∧ (¬ p1 < r1 → ((p1 ≤ ((r1 + p0) - p3) → ((p3 < p0 → (∀ x5 : Int32, x5 = (p2 ||| (1 <<< (((p0 - 1) - p3) &&& 31))) → wp_X6_bit p2 (((p0 - 1) - p3) + p4) fun (r6 : Int32) => (¬ r6 = 1 → (wrec p0 p1 p2 (p3 + 1) p4 fun (r8 : Int32) => (r8 = (-1) → (wrec p0 p1 x5 (p3 + 1) (p3 + 1) fun (r10 : Int32) => wp_X4_completed_j121 wrec Q r10)) ∧ (¬ r8 = (-1) → (wp_X4_completed_j121 wrec Q r8)))) ∧ (r6 = 1 → (wrec p0 p1 x5 (p3 + 1) p4 fun (r11 : Int32) => Q r11)))) ∧ (¬ p3 < p0 → (wp_X6_leftOver p0 p4 fun (r12 : Int32) => (¬ r12 = 0 → (wp_X4_completed_j43 wrec Q (-1))) ∧ (r12 = 0 → (wp_X4_completed_j43 wrec Q p2)))))) ∧ (¬ p1 ≤ ((r1 + p0) - p3) → (wp_X4_completed_j22 wrec Q ))))
def wp_X4_completed : Nat → Int32 → Int32 → Int32 → Int32 → Int32 → (Int32 → Prop) → Prop
  | 0, _, _, _, _, _, _ => False
  | d + 1, p0, p1, p2, p3, p4, Q => wb_X4_completed (wp_X4_completed d) p0 p1 p2 p3 p4 Q
abbrev rmX4_completed (d : Nat) : Room := { frames := 1 + d, cells := 0, slots := 0, locals := 22 + 27 * d }
set_option maxHeartbeats 4000000 in
set_option maxRecDepth 100000 in
theorem c_X4_completed (l : Launch) (d : Nat) : ∀ (p0 : Int32) (p1 : Int32) (p2 : Int32) (p3 : Int32) (p4 : Int32) (Q : Int32 → Prop) (h : wp_X4_completed d p0 p1 p2 p3 p4 Q), Met l yX4_completed wsX4_completed (rmX4_completed d) (va_Pc [.int p0, .int p1, .int p2, .int p3, .int p4] (fun U => nW U)) (vp_Si Q) 0 0 (fun _ => False) := by
  induction d with
  | zero => intro p0 p1 p2 p3 p4 Q h; unfold wp_X4_completed at h; exact h.elim
  | succ d ih =>
    intro p0 p1 p2 p3 p4 Q h
    unfold wp_X4_completed at h
    unfold wb_X4_completed at h
    refine Met.ofW (cc := cX4_completed) (maxL := 8) (ret := (some .int)) (by decide) rfl ?_
    intro p e s m args below meth c s₁ B hml hv
    obtain ⟨rfl, hN⟩ := hv
    have hx := B.exec
    have hb := B.bytes
    have hr := B.returns
    have hts := atoms_spec (ws := wsX4_completed) B.pre
    have hown : s.vm.findClass RX4 = some m.cls := findClass_of_methodNamed B.named
    have hlocks := B.notSynchronized
    have w22 : wp_X4_completed_j22 (wp_X4_completed d) Q → ∀ (ls : Array Slot), lv_has ls 8 [] → W p l e (headSpec wsX4_completed (rmX4_completed (d + 1))).room s m ([.int p0, .int p1, .int p2, .int p3, .int p4] : List Value).toArray below meth c s.heap [] 0 0 (MQ below (vp_Si Q) ([.int p0, .int p1, .int p2, .int p3, .int p4] : List Value).toArray s 0 0 (fun _ => False)) (F0 m 22 ls []) := by
      intro  h ls hl
      unfold wp_X4_completed_j22 at h
      refine lv_iconst (v := (-1)) hx hb dX4_completed_22 (by decide) ?_
      exact W.iret (v := (-1)) hx hb hr (fun t ht hW => ⟨_, rfl, h, ht⟩) (fun _ h => by cases h) dX4_completed_23
    have w43 : ∀ (s0 : Int32), wp_X4_completed_j43 (wp_X4_completed d) Q s0 → ∀ (ls : Array Slot), lv_has ls 8 [] → W p l e (headSpec wsX4_completed (rmX4_completed (d + 1))).room s m ([.int p0, .int p1, .int p2, .int p3, .int p4] : List Value).toArray below meth c s.heap [] 0 0 (MQ below (vp_Si Q) ([.int p0, .int p1, .int p2, .int p3, .int p4] : List Value).toArray s 0 0 (fun _ => False)) (F0 m 43 ls [.int s0]) := by
      intro s0 h ls hl
      unfold wp_X4_completed_j43 at h
      exact W.iret (v := s0) hx hb hr (fun t ht hW => ⟨_, rfl, h, ht⟩) (fun _ h => by cases h) dX4_completed_43
    have w121 : ∀ (s0 : Int32), wp_X4_completed_j121 (wp_X4_completed d) Q s0 → ∀ (ls : Array Slot), lv_has ls 8 [] → W p l e (headSpec wsX4_completed (rmX4_completed (d + 1))).room s m ([.int p0, .int p1, .int p2, .int p3, .int p4] : List Value).toArray below meth c s.heap [] 0 0 (MQ below (vp_Si Q) ([.int p0, .int p1, .int p2, .int p3, .int p4] : List Value).toArray s 0 0 (fun _ => False)) (F0 m 121 ls [.int s0]) := by
      intro s0 h ls hl
      unfold wp_X4_completed_j121 at h
      exact W.iret (v := s0) hx hb hr (fun t ht hW => ⟨_, rfl, h, ht⟩) (fun _ h => by cases h) dX4_completed_121
    have hl := lv_entry ([.int p0, .int p1, .int p2, .int p3, .int p4]) (n := 8) (Nat.le_of_ble_eq_true rfl)
    rw [lg_entry_eq]
    generalize (lg_sl ([.int p0, .int p1, .int p2, .int p3, .int p4]) ++ List.replicate (8 - (lg_sl ([.int p0, .int p1, .int p2, .int p3, .int p4])).length) Slot.unset).toArray = ls at hl ⊢
    have hl : lv_has ls 8 [(0, .int p0), (1, .int p1), (2, .int p2), (3, .int p3), (4, .int p4)] := hl
    refine lv_iload_n hx hb dX4_completed_0 rfl (lv_at hl 2 rfl) ?_
    refine vs_calli (va_runS (As := [.int p2]) (rest := []) ⟨hx, hb, hml, hown, hts⟩ (c_J6_bitCount_0f7a4 l p2 _ h) (va_cwS 1 hts gX4_completed_J6_bitCount_0f7a4 rfl rfl rfl (by decide +kernel) ⟨by show 1 ≤ _ + (d + 1); omega, by show 20 ≤ _ + _ * (d + 1); omega⟩) ⟨fun a U g mk q => ⟨q.1, nW_call q.2⟩, fun U hU hW => ⟨rfl, nW_warm hW hN⟩⟩ rfl rfl hl.1 rfl (lv_room (Nat.le_of_ble_eq_true rfl)) dX4_completed_1 ⟨Nat.le_of_ble_eq_true rfl, Nat.le_of_ble_eq_true rfl⟩) (fun r1 h => ?_)
    refine lv_istore (lv' := [(5, .int r1), (0, .int p0), (1, .int p1), (2, .int p2), (3, .int p3), (4, .int p4)]) hx hb dX4_completed_4 hl (by decide) rfl (fun ls hl => ?_)
    refine lv_iload hx hb dX4_completed_6 (lv_at hl 0 rfl) ?_
    refine lv_iload_n hx hb dX4_completed_8 rfl (lv_at hl 2 rfl) ?_
    refine lv_icmp_gt (tgt := 22) hx hb dX4_completed_9 (by decide) (fun c2 => ?_) (fun c2 => ?_)
    · replace h := h.1 c2
      exact w22  h ls (lv_sub hl [] rfl)
    · replace h := h.2 c2
      refine lv_iload hx hb dX4_completed_12 (lv_at hl 0 rfl) ?_
      refine lv_iload_n hx hb dX4_completed_14 rfl (lv_at hl 1 rfl) ?_
      refine lv_iadd hx hb dX4_completed_15 ?_
      refine lv_iload_n hx hb dX4_completed_16 rfl (lv_at hl 4 rfl) ?_
      refine lv_isub hx hb dX4_completed_17 ?_
      refine lv_iload_n hx hb dX4_completed_18 rfl (lv_at hl 2 rfl) ?_
      refine lv_icmp_ge (tgt := 24) hx hb dX4_completed_19 (by decide) (fun c3 => ?_) (fun c3 => ?_)
      · replace h := h.1 c3
        refine lv_iload_n hx hb dX4_completed_24 rfl (lv_at hl 4 rfl) ?_
        refine lv_iload_n hx hb dX4_completed_25 rfl (lv_at hl 1 rfl) ?_
        refine lv_icmp_lt (tgt := 44) hx hb dX4_completed_26 (by decide) (fun c4 => ?_) (fun c4 => ?_)
        · replace h := h.1 c4
          refine lv_iload_n hx hb dX4_completed_44 rfl (lv_at hl 3 rfl) ?_
          refine lv_iconst (v := 1) hx hb dX4_completed_45 (by decide) ?_
          refine lv_iload_n hx hb dX4_completed_46 rfl (lv_at hl 1 rfl) ?_
          refine lv_iconst (v := 1) hx hb dX4_completed_47 (by decide) ?_
          refine lv_isub hx hb dX4_completed_48 ?_
          refine lv_iload_n hx hb dX4_completed_49 rfl (lv_at hl 4 rfl) ?_
          refine lv_isub hx hb dX4_completed_50 ?_
          refine lv_ishl hx hb dX4_completed_51 ?_
          refine lv_ior hx hb dX4_completed_52 ?_
          refine lv_topi (fun x5 ex5 => ?_)
          replace h := h x5 ex5
          refine lv_istore (lv' := [(6, .int x5), (5, .int r1), (0, .int p0), (1, .int p1), (2, .int p2), (3, .int p3), (4, .int p4)]) hx hb dX4_completed_53 hl (by decide) rfl (fun ls hl => ?_)
          refine lv_iload_n hx hb dX4_completed_55 rfl (lv_at hl 4 rfl) ?_
          refine lv_iload_n hx hb dX4_completed_56 rfl (lv_at hl 2 rfl) ?_
          refine lv_iconst (v := 1) hx hb dX4_completed_57 (by decide) ?_
          refine lv_isub hx hb dX4_completed_58 ?_
          refine lv_iload_n hx hb dX4_completed_59 rfl (lv_at hl 5 rfl) ?_
          refine lv_isub hx hb dX4_completed_60 ?_
          refine lv_iload hx hb dX4_completed_61 (lv_at hl 6 rfl) ?_
          refine lv_iadd hx hb dX4_completed_63 ?_
          refine vs_calli (va_runSN (As := [.int p2, .int (((p0 - 1) - p3) + p4)]) (rest := []) ⟨hx, hb, hml, hown, hts⟩ (c_X6_bit l p2 (((p0 - 1) - p3) + p4) _ h) ⟨va_cnB 2 hts gX4_completed_X6_bit_n9 rfl rfl rfl (nw_30 hN) (hts (.initialized RX6) (by decide +kernel)) (by decide +kernel) ⟨by show 1 ≤ _ + (d + 1); omega, by show 21 ≤ _ + _ * (d + 1); omega⟩, hts (.static yX6_bit) (by decide +kernel), trivial⟩ ⟨fun a U g mk q => ⟨q.1, nW_call q.2⟩, fun U hU hW => ⟨rfl, nW_warm hW hN⟩⟩ rfl rfl hl.1 rfl (lv_room (Nat.le_of_ble_eq_true rfl)) dX4_completed_64 ⟨Nat.le_of_ble_eq_true rfl, Nat.le_of_ble_eq_true rfl⟩) (fun r6 h => ?_)
          refine lv_iconst (v := 1) hx hb dX4_completed_67 (by decide) ?_
          refine lv_icmp_ne (tgt := 84) hx hb dX4_completed_68 (by decide) (fun c7 => ?_) (fun c7 => ?_)
          · replace h := h.1 c7
            refine lv_iload_n hx hb dX4_completed_84 rfl (lv_at hl 2 rfl) ?_
            refine lv_iload_n hx hb dX4_completed_85 rfl (lv_at hl 3 rfl) ?_
            refine lv_iload_n hx hb dX4_completed_86 rfl (lv_at hl 4 rfl) ?_
            refine lv_iload_n hx hb dX4_completed_87 rfl (lv_at hl 5 rfl) ?_
            refine lv_iconst (v := 1) hx hb dX4_completed_88 (by decide) ?_
            refine lv_iadd hx hb dX4_completed_89 ?_
            refine lv_iload hx hb dX4_completed_90 (lv_at hl 6 rfl) ?_
            refine vs_calli (va_runS (As := [.int p0, .int p1, .int p2, .int (p3 + 1), .int p4]) (rest := []) ⟨hx, hb, hml, hown, hts⟩ (ih p0 p1 p2 (p3 + 1) p4 _ h) (va_cwS 5 hts gX4_completed_X4_completed rfl rfl rfl (by decide +kernel) ⟨by show _ + d + 1 ≤ _ + (d + 1); omega, by show 8 + (8 + 11) + (_ + 27 * d) ≤ _ + 27 * (d + 1); omega⟩) ⟨fun a U g mk q => ⟨q.1, nW_call q.2⟩, fun U hU hW => ⟨rfl, nW_warm hW hN⟩⟩ rfl rfl hl.1 rfl (lv_room (Nat.le_of_ble_eq_true rfl)) dX4_completed_92 ⟨Nat.le_of_ble_eq_true rfl, Nat.le_of_ble_eq_true rfl⟩) (fun r8 h => ?_)
            refine lv_istore (lv' := [(7, .int r8), (6, .int x5), (5, .int r1), (0, .int p0), (1, .int p1), (2, .int p2), (3, .int p3), (4, .int p4)]) hx hb dX4_completed_95 hl (by decide) rfl (fun ls hl => ?_)
            refine lv_iload hx hb dX4_completed_97 (lv_at hl 0 rfl) ?_
            refine lv_iconst (v := (-1)) hx hb dX4_completed_99 (by decide) ?_
            refine lv_icmp_eq (tgt := 108) hx hb dX4_completed_100 (by decide) (fun c9 => ?_) (fun c9 => ?_)
            · replace h := h.1 c9
              refine lv_iload_n hx hb dX4_completed_108 rfl (lv_at hl 3 rfl) ?_
              refine lv_iload_n hx hb dX4_completed_109 rfl (lv_at hl 4 rfl) ?_
              refine lv_iload hx hb dX4_completed_110 (lv_at hl 1 rfl) ?_
              refine lv_iload_n hx hb dX4_completed_112 rfl (lv_at hl 6 rfl) ?_
              refine lv_iconst (v := 1) hx hb dX4_completed_113 (by decide) ?_
              refine lv_iadd hx hb dX4_completed_114 ?_
              refine lv_iload_n hx hb dX4_completed_115 rfl (lv_at hl 6 rfl) ?_
              refine lv_iconst (v := 1) hx hb dX4_completed_116 (by decide) ?_
              refine lv_iadd hx hb dX4_completed_117 ?_
              refine vs_calli (va_runS (As := [.int p0, .int p1, .int x5, .int (p3 + 1), .int (p3 + 1)]) (rest := []) ⟨hx, hb, hml, hown, hts⟩ (ih p0 p1 x5 (p3 + 1) (p3 + 1) _ h) (va_cwS 5 hts gX4_completed_X4_completed rfl rfl rfl (by decide +kernel) ⟨by show _ + d + 1 ≤ _ + (d + 1); omega, by show 8 + (8 + 11) + (_ + 27 * d) ≤ _ + 27 * (d + 1); omega⟩) ⟨fun a U g mk q => ⟨q.1, nW_call q.2⟩, fun U hU hW => ⟨rfl, nW_warm hW hN⟩⟩ rfl rfl hl.1 rfl (lv_room (Nat.le_of_ble_eq_true rfl)) dX4_completed_118 ⟨Nat.le_of_ble_eq_true rfl, Nat.le_of_ble_eq_true rfl⟩) (fun r10 h => ?_)
              exact w121 r10 h ls (lv_sub hl [] rfl)
            · replace h := h.2 c9
              refine lv_iload hx hb dX4_completed_103 (lv_at hl 0 rfl) ?_
              refine lv_goto (tgt := 121) hx hb dX4_completed_105 (by decide) ?_
              exact w121 r8 h ls (lv_sub hl [] rfl)
          · replace h := h.2 c7
            refine lv_iload_n hx hb dX4_completed_71 rfl (lv_at hl 2 rfl) ?_
            refine lv_iload_n hx hb dX4_completed_72 rfl (lv_at hl 3 rfl) ?_
            refine lv_iload hx hb dX4_completed_73 (lv_at hl 0 rfl) ?_
            refine lv_iload_n hx hb dX4_completed_75 rfl (lv_at hl 5 rfl) ?_
            refine lv_iconst (v := 1) hx hb dX4_completed_76 (by decide) ?_
            refine lv_iadd hx hb dX4_completed_77 ?_
            refine lv_iload hx hb dX4_completed_78 (lv_at hl 6 rfl) ?_
            refine vs_calli (va_runS (As := [.int p0, .int p1, .int x5, .int (p3 + 1), .int p4]) (rest := []) ⟨hx, hb, hml, hown, hts⟩ (ih p0 p1 x5 (p3 + 1) p4 _ h) (va_cwS 5 hts gX4_completed_X4_completed rfl rfl rfl (by decide +kernel) ⟨by show _ + d + 1 ≤ _ + (d + 1); omega, by show 8 + (8 + 11) + (_ + 27 * d) ≤ _ + 27 * (d + 1); omega⟩) ⟨fun a U g mk q => ⟨q.1, nW_call q.2⟩, fun U hU hW => ⟨rfl, nW_warm hW hN⟩⟩ rfl rfl hl.1 rfl (lv_room (Nat.le_of_ble_eq_true rfl)) dX4_completed_80 ⟨Nat.le_of_ble_eq_true rfl, Nat.le_of_ble_eq_true rfl⟩) (fun r11 h => ?_)
            exact W.iret (v := r11) hx hb hr (fun t ht hW => ⟨_, rfl, h, ht⟩) (fun _ h => by cases h) dX4_completed_83
        · replace h := h.2 c4
          refine lv_iload_n hx hb dX4_completed_29 rfl (lv_at hl 1 rfl) ?_
          refine lv_iload hx hb dX4_completed_30 (lv_at hl 5 rfl) ?_
          refine vs_calli (va_runSN (As := [.int p0, .int p4]) (rest := []) ⟨hx, hb, hml, hown, hts⟩ (c_X6_leftOver l p0 p4 _ h) ⟨va_cnB 2 hts gX4_completed_X6_leftOver_n40 rfl rfl rfl (nw_36 hN) (hts (.initialized RX6) (by decide +kernel)) (by decide +kernel) ⟨by show 1 ≤ _ + (d + 1); omega, by show 22 ≤ _ + _ * (d + 1); omega⟩, hts (.static yX6_leftOver) (by decide +kernel), trivial⟩ ⟨fun a U g mk q => ⟨q.1, nW_call q.2⟩, fun U hU hW => ⟨rfl, nW_warm hW hN⟩⟩ rfl rfl hl.1 rfl (lv_room (Nat.le_of_ble_eq_true rfl)) dX4_completed_32 ⟨Nat.le_of_ble_eq_true rfl, Nat.le_of_ble_eq_true rfl⟩) (fun r12 h => ?_)
          refine lv_if_ne (tgt := 42) hx hb dX4_completed_35 (by decide) (fun c13 => ?_) (fun c13 => ?_)
          · replace h := h.1 c13
            refine lv_iconst (v := (-1)) hx hb dX4_completed_42 (by decide) ?_
            exact w43 (-1) h ls (lv_sub hl [] rfl)
          · replace h := h.2 c13
            refine lv_iload_n hx hb dX4_completed_38 rfl (lv_at hl 3 rfl) ?_
            refine lv_goto (tgt := 43) hx hb dX4_completed_39 (by decide) ?_
            exact w43 p2 h ls (lv_sub hl [] rfl)
      · replace h := h.2 c3
        exact w22  h ls (lv_sub hl [] rfl)

def wp_X4_later_j63 (L9 : Int32 → Int32 → Int32 → Int32 → Prop) (Q : Int32 → Prop) (l0 : Int32) (l1 : Int32) (l2 : Int32) (l3 : Int32) : Prop := ∀ x1 : Int32, x1 = l3 + (-1) → L9 l0 l1 l2 x1
def wp_X4_later_h9 (Q : Int32 → Prop) : Nat → Int32 → Int32 → Int32 → Int32 → Prop
  | 0, _, _, _, _ => False
  | z9 + 1, l0, l1, l2, l3 => (l3 < 0 → (Q (-1))) ∧ (¬ l3 < 0 → (∀ x3 : Int32, x3 = (1 <<< (((l0 - 1) - l3) &&& 31)) → (¬ (l1 &&& x3) = 0 → (wp_X4_later_j63 (wp_X4_later_h9 Q z9) Q l0 l1 l2 l3)) ∧ ((l1 &&& x3) = 0 → (∀ x5 : Int32, x5 = ((l1 &&& (-x3)) ||| x3) → wp_X4_completed 26 l0 l2 x5 (l3 + 1) (l3 + 1) fun (r6 : Int32) => (r6 = (-1) → (wp_X4_later_j63 (wp_X4_later_h9 Q z9) Q l0 l1 l2 l3)) ∧ (¬ r6 = (-1) → (Q r6))))))
def wp_X4_later (p0 : Int32) (p1 : Int32) (Q : Int32 → Prop) : Prop := wp_J6_bitCount_0f7a4 p1 fun (r8 : Int32) => ∀ x9 : Int32, x9 = (p0 - 1) → ∃ k10 : Nat, wp_X4_later_h9 Q k10 p0 p1 r8 x9
abbrev rmX4_later : Room := { frames := 28, cells := 0, slots := 0, locals := 751 }
set_option maxHeartbeats 4000000 in
set_option maxRecDepth 100000 in
theorem c_X4_later (l : Launch) (p0 : Int32) (p1 : Int32) (Q : Int32 → Prop) (h : wp_X4_later p0 p1 Q) : Met l yX4_later wsX4_later (rmX4_later) (va_Pc [.int p0, .int p1] (fun U => nW U)) (vp_Si Q) 0 0 (fun _ => False) := by
  unfold wp_X4_later at h
  refine Met.ofW (cc := cX4_later) (maxL := 7) (ret := (some .int)) (by decide) rfl ?_
  intro p e s m args below meth c s₁ B hml hv
  obtain ⟨rfl, hN⟩ := hv
  have hx := B.exec
  have hb := B.bytes
  have hr := B.returns
  have hts := atoms_spec (ws := wsX4_later) B.pre
  have hown : s.vm.findClass RX4 = some m.cls := findClass_of_methodNamed B.named
  have hlocks := B.notSynchronized
  have w9 : ∀ (z9 : Nat) (l0 : Int32) (l1 : Int32) (l2 : Int32) (l3 : Int32), wp_X4_later_h9 Q z9 l0 l1 l2 l3 → ∀ (ls : Array Slot), lv_has ls 7 [(0, .int l0), (1, .int l1), (2, .int l2), (3, .int l3)] → W p l e (headSpec wsX4_later (rmX4_later)).room s m ([.int p0, .int p1] : List Value).toArray below meth c s.heap [] 0 0 (MQ below (vp_Si Q) ([.int p0, .int p1] : List Value).toArray s 0 0 (fun _ => False)) (F0 m 9 ls []) := by
    intro z9
    induction z9 with
    | zero => intro l0 l1 l2 l3 h; unfold wp_X4_later_h9 at h; exact h.elim
    | succ z9 k9 =>
      have w63 : ∀ (l0 : Int32) (l1 : Int32) (l2 : Int32) (l3 : Int32), wp_X4_later_j63 (wp_X4_later_h9 Q z9) Q l0 l1 l2 l3 → ∀ (ls : Array Slot), lv_has ls 7 [(0, .int l0), (1, .int l1), (2, .int l2), (3, .int l3)] → W p l e (headSpec wsX4_later (rmX4_later)).room s m ([.int p0, .int p1] : List Value).toArray below meth c s.heap [] 0 0 (MQ below (vp_Si Q) ([.int p0, .int p1] : List Value).toArray s 0 0 (fun _ => False)) (F0 m 63 ls []) := by
        intro l0 l1 l2 l3 h ls hl
        unfold wp_X4_later_j63 at h
        obtain ⟨x1, ex1⟩ : ∃ y : Int32, y = l3 + (-1) := ⟨_, rfl⟩
        replace h := h x1 ex1
        refine lv_iinc (v := x1) (lv' := [(3, .int x1), (0, .int l0), (1, .int l1), (2, .int l2)]) hx hb dX4_later_63 hl (k := 3) rfl (by rw [ex1]; rfl) (by decide) rfl (fun ls hl => ?_)
        refine lv_goto (tgt := 9) hx hb dX4_later_66 (by decide) ?_
        exact k9 l0 l1 l2 x1 h ls (lv_sub hl [1, 2, 3, 0] rfl)
      intro l0 l1 l2 l3 h ls hl
      unfold wp_X4_later_h9 at h
      refine lv_iload_n hx hb dX4_later_9 rfl (lv_at hl 3 rfl) ?_
      refine lv_if_lt (tgt := 69) hx hb dX4_later_10 (by decide) (fun c2 => ?_) (fun c2 => ?_)
      · replace h := h.1 c2
        refine lv_iconst (v := (-1)) hx hb dX4_later_69 (by decide) ?_
        exact W.iret (v := (-1)) hx hb hr (fun t ht hW => ⟨_, rfl, h, ht⟩) (fun _ h => by cases h) dX4_later_70
      · replace h := h.2 c2
        refine lv_iconst (v := 1) hx hb dX4_later_13 (by decide) ?_
        refine lv_iload_n hx hb dX4_later_14 rfl (lv_at hl 0 rfl) ?_
        refine lv_iconst (v := 1) hx hb dX4_later_15 (by decide) ?_
        refine lv_isub hx hb dX4_later_16 ?_
        refine lv_iload_n hx hb dX4_later_17 rfl (lv_at hl 3 rfl) ?_
        refine lv_isub hx hb dX4_later_18 ?_
        refine lv_ishl hx hb dX4_later_19 ?_
        refine lv_topi (fun x3 ex3 => ?_)
        replace h := h x3 ex3
        refine lv_istore (lv' := [(4, .int x3), (0, .int l0), (1, .int l1), (2, .int l2), (3, .int l3)]) hx hb dX4_later_20 hl (by decide) rfl (fun ls hl => ?_)
        refine lv_iload_n hx hb dX4_later_22 rfl (lv_at hl 2 rfl) ?_
        refine lv_iload hx hb dX4_later_23 (lv_at hl 0 rfl) ?_
        refine lv_iand hx hb dX4_later_25 ?_
        refine lv_if_ne (tgt := 63) hx hb dX4_later_26 (by decide) (fun c4 => ?_) (fun c4 => ?_)
        · replace h := h.1 c4
          exact w63 l0 l1 l2 l3 h ls (lv_sub hl [1, 2, 3, 4] rfl)
        · replace h := h.2 c4
          refine lv_iload_n hx hb dX4_later_29 rfl (lv_at hl 2 rfl) ?_
          refine lv_iload hx hb dX4_later_30 (lv_at hl 0 rfl) ?_
          refine lv_ineg hx hb dX4_later_32 ?_
          refine lv_iand hx hb dX4_later_33 ?_
          refine lv_iload hx hb dX4_later_34 (lv_at hl 0 rfl) ?_
          refine lv_ior hx hb dX4_later_36 ?_
          refine lv_topi (fun x5 ex5 => ?_)
          replace h := h x5 ex5
          refine lv_istore (lv' := [(5, .int x5), (4, .int x3), (0, .int l0), (1, .int l1), (2, .int l2), (3, .int l3)]) hx hb dX4_later_37 hl (by decide) rfl (fun ls hl => ?_)
          refine lv_iload_n hx hb dX4_later_39 rfl (lv_at hl 2 rfl) ?_
          refine lv_iload_n hx hb dX4_later_40 rfl (lv_at hl 4 rfl) ?_
          refine lv_iload hx hb dX4_later_41 (lv_at hl 0 rfl) ?_
          refine lv_iload_n hx hb dX4_later_43 rfl (lv_at hl 5 rfl) ?_
          refine lv_iconst (v := 1) hx hb dX4_later_44 (by decide) ?_
          refine lv_iadd hx hb dX4_later_45 ?_
          refine lv_iload_n hx hb dX4_later_46 rfl (lv_at hl 5 rfl) ?_
          refine lv_iconst (v := 1) hx hb dX4_later_47 (by decide) ?_
          refine lv_iadd hx hb dX4_later_48 ?_
          refine vs_calli (va_runS (As := [.int l0, .int l2, .int x5, .int (l3 + 1), .int (l3 + 1)]) (rest := []) ⟨hx, hb, hml, hown, hts⟩ (c_X4_completed l 26 l0 l2 x5 (l3 + 1) (l3 + 1) _ h) (va_cwS 5 hts gX4_later_X4_completed rfl rfl rfl (by decide +kernel) ⟨Nat.le_of_ble_eq_true rfl, Nat.le_of_ble_eq_true rfl⟩) ⟨fun a U g mk q => ⟨q.1, nW_call q.2⟩, fun U hU hW => ⟨rfl, nW_warm hW hN⟩⟩ rfl rfl hl.1 rfl (lv_room (Nat.le_of_ble_eq_true rfl)) dX4_later_49 ⟨Nat.le_of_ble_eq_true rfl, Nat.le_of_ble_eq_true rfl⟩) (fun r6 h => ?_)
          refine lv_istore (lv' := [(6, .int r6), (5, .int x5), (4, .int x3), (0, .int l0), (1, .int l1), (2, .int l2), (3, .int l3)]) hx hb dX4_later_52 hl (by decide) rfl (fun ls hl => ?_)
          refine lv_iload hx hb dX4_later_54 (lv_at hl 0 rfl) ?_
          refine lv_iconst (v := (-1)) hx hb dX4_later_56 (by decide) ?_
          refine lv_icmp_eq (tgt := 63) hx hb dX4_later_57 (by decide) (fun c7 => ?_) (fun c7 => ?_)
          · replace h := h.1 c7
            exact w63 l0 l1 l2 l3 h ls (lv_sub hl [3, 4, 5, 6] rfl)
          · replace h := h.2 c7
            refine lv_iload hx hb dX4_later_60 (lv_at hl 0 rfl) ?_
            exact W.iret (v := r6) hx hb hr (fun t ht hW => ⟨_, rfl, h, ht⟩) (fun _ h => by cases h) dX4_later_62
  have hl := lv_entry ([.int p0, .int p1]) (n := 7) (Nat.le_of_ble_eq_true rfl)
  rw [lg_entry_eq]
  generalize (lg_sl ([.int p0, .int p1]) ++ List.replicate (7 - (lg_sl ([.int p0, .int p1])).length) Slot.unset).toArray = ls at hl ⊢
  have hl : lv_has ls 7 [(0, .int p0), (1, .int p1)] := hl
  refine lv_iload_n hx hb dX4_later_0 rfl (lv_at hl 1 rfl) ?_
  refine vs_calli (va_runS (As := [.int p1]) (rest := []) ⟨hx, hb, hml, hown, hts⟩ (c_J6_bitCount_0f7a4 l p1 _ h) (va_cwS 1 hts gX4_later_J6_bitCount_0f7a4 rfl rfl rfl (by decide +kernel) ⟨Nat.le_of_ble_eq_true rfl, Nat.le_of_ble_eq_true rfl⟩) ⟨fun a U g mk q => ⟨q.1, nW_call q.2⟩, fun U hU hW => ⟨rfl, nW_warm hW hN⟩⟩ rfl rfl hl.1 rfl (lv_room (Nat.le_of_ble_eq_true rfl)) dX4_later_1 ⟨Nat.le_of_ble_eq_true rfl, Nat.le_of_ble_eq_true rfl⟩) (fun r8 h => ?_)
  refine lv_istore_n (lv' := [(2, .int r8), (0, .int p0), (1, .int p1)]) hx hb dX4_later_4 rfl hl (by decide) rfl (fun ls hl => ?_)
  refine lv_iload_n hx hb dX4_later_5 rfl (lv_at hl 1 rfl) ?_
  refine lv_iconst (v := 1) hx hb dX4_later_6 (by decide) ?_
  refine lv_isub hx hb dX4_later_7 ?_
  refine lv_topi (fun x9 ex9 => ?_)
  replace h := h x9 ex9
  refine lv_istore_n (lv' := [(3, .int x9), (2, .int r8), (0, .int p0), (1, .int p1)]) hx hb dX4_later_8 rfl hl (by decide) rfl (fun ls hl => ?_)
  obtain ⟨k10, h⟩ := h
  exact w9 k10 p0 p1 r8 x9 h ls (lv_sub hl [2, 3, 1, 0] rfl)

def wp_X6_evenly_j26 (L4 : Int32 → Int32 → Int32 → Int32 → Prop) (Q : Int32 → Prop) (l0 : Int32) (l1 : Int32) (l2 : Int32) (l3 : Int32) : Prop := ∀ x1 : Int32, x1 = l3 + 1 → L4 l0 l1 l2 x1
def wp_X6_evenly_h4 (Q : Int32 → Prop) : Nat → Int32 → Int32 → Int32 → Int32 → Prop
  | 0, _, _, _, _ => False
  | z4 + 1, l0, l1, l2, l3 => (l0 ≤ l3 → (Q l2)) ∧ (¬ l0 ≤ l3 → (wp_X6_leftOver (l3 * l1) l0 fun (r3 : Int32) => (l1 ≤ r3 → (wp_X6_evenly_j26 (wp_X6_evenly_h4 Q z4) Q l0 l1 l2 l3)) ∧ (¬ l1 ≤ r3 → (∀ x5 : Int32, x5 = (l2 ||| (1 <<< (l3 &&& 31))) → wp_X6_evenly_j26 (wp_X6_evenly_h4 Q z4) Q l0 l1 x5 l3))))
def wp_X6_evenly (p0 : Int32) (p1 : Int32) (Q : Int32 → Prop) : Prop := ∃ k6 : Nat, wp_X6_evenly_h4 Q k6 p0 p1 0 0
abbrev rmX6_evenly : Room := { frames := 1, cells := 0, slots := 0, locals := 22 }
set_option maxHeartbeats 4000000 in
set_option maxRecDepth 100000 in
theorem c_X6_evenly (l : Launch) (p0 : Int32) (p1 : Int32) (Q : Int32 → Prop) (h : wp_X6_evenly p0 p1 Q) : Met l yX6_evenly wsX6_evenly (rmX6_evenly) (va_Pc [.int p0, .int p1] (fun U => nW U)) (vp_Si Q) 0 0 (fun _ => False) := by
  unfold wp_X6_evenly at h
  refine Met.ofW (cc := cX6_evenly) (maxL := 4) (ret := (some .int)) (by decide) rfl ?_
  intro p e s m args below meth c s₁ B hml hv
  obtain ⟨rfl, hN⟩ := hv
  have hx := B.exec
  have hb := B.bytes
  have hr := B.returns
  have hts := atoms_spec (ws := wsX6_evenly) B.pre
  have hown : s.vm.findClass RX6 = some m.cls := findClass_of_methodNamed B.named
  have hlocks := B.notSynchronized
  have w4 : ∀ (z4 : Nat) (l0 : Int32) (l1 : Int32) (l2 : Int32) (l3 : Int32), wp_X6_evenly_h4 Q z4 l0 l1 l2 l3 → ∀ (ls : Array Slot), lv_has ls 4 [(0, .int l0), (1, .int l1), (2, .int l2), (3, .int l3)] → W p l e (headSpec wsX6_evenly (rmX6_evenly)).room s m ([.int p0, .int p1] : List Value).toArray below meth c s.heap [] 0 0 (MQ below (vp_Si Q) ([.int p0, .int p1] : List Value).toArray s 0 0 (fun _ => False)) (F0 m 4 ls []) := by
    intro z4
    induction z4 with
    | zero => intro l0 l1 l2 l3 h; unfold wp_X6_evenly_h4 at h; exact h.elim
    | succ z4 k4 =>
      have w26 : ∀ (l0 : Int32) (l1 : Int32) (l2 : Int32) (l3 : Int32), wp_X6_evenly_j26 (wp_X6_evenly_h4 Q z4) Q l0 l1 l2 l3 → ∀ (ls : Array Slot), lv_has ls 4 [(0, .int l0), (1, .int l1), (2, .int l2), (3, .int l3)] → W p l e (headSpec wsX6_evenly (rmX6_evenly)).room s m ([.int p0, .int p1] : List Value).toArray below meth c s.heap [] 0 0 (MQ below (vp_Si Q) ([.int p0, .int p1] : List Value).toArray s 0 0 (fun _ => False)) (F0 m 26 ls []) := by
        intro l0 l1 l2 l3 h ls hl
        unfold wp_X6_evenly_j26 at h
        obtain ⟨x1, ex1⟩ : ∃ y : Int32, y = l3 + 1 := ⟨_, rfl⟩
        replace h := h x1 ex1
        refine lv_iinc (v := x1) (lv' := [(3, .int x1), (0, .int l0), (1, .int l1), (2, .int l2)]) hx hb dX6_evenly_26 hl (k := 3) rfl (by rw [ex1]; rfl) (by decide) rfl (fun ls hl => ?_)
        refine lv_goto (tgt := 4) hx hb dX6_evenly_29 (by decide) ?_
        exact k4 l0 l1 l2 x1 h ls (lv_sub hl [1, 2, 3, 0] rfl)
      intro l0 l1 l2 l3 h ls hl
      unfold wp_X6_evenly_h4 at h
      refine lv_iload_n hx hb dX6_evenly_4 rfl (lv_at hl 3 rfl) ?_
      refine lv_iload_n hx hb dX6_evenly_5 rfl (lv_at hl 0 rfl) ?_
      refine lv_icmp_ge (tgt := 32) hx hb dX6_evenly_6 (by decide) (fun c2 => ?_) (fun c2 => ?_)
      · replace h := h.1 c2
        refine lv_iload_n hx hb dX6_evenly_32 rfl (lv_at hl 2 rfl) ?_
        exact W.iret (v := l2) hx hb hr (fun t ht hW => ⟨_, rfl, h, ht⟩) (fun _ h => by cases h) dX6_evenly_33
      · replace h := h.2 c2
        refine lv_iload_n hx hb dX6_evenly_9 rfl (lv_at hl 3 rfl) ?_
        refine lv_iload_n hx hb dX6_evenly_10 rfl (lv_at hl 1 rfl) ?_
        refine lv_imul hx hb dX6_evenly_11 ?_
        refine lv_iload_n hx hb dX6_evenly_12 rfl (lv_at hl 0 rfl) ?_
        refine vs_calli (va_runS (As := [.int (l3 * l1), .int l0]) (rest := []) ⟨hx, hb, hml, hown, hts⟩ (c_X6_leftOver l (l3 * l1) l0 _ h) (va_cwS 2 hts gX6_evenly_X6_leftOver rfl rfl rfl (by decide +kernel) ⟨Nat.le_of_ble_eq_true rfl, Nat.le_of_ble_eq_true rfl⟩) ⟨fun a U g mk q => ⟨q.1, nW_call q.2⟩, fun U hU hW => ⟨rfl, nW_warm hW hN⟩⟩ rfl rfl hl.1 rfl (lv_room (Nat.le_of_ble_eq_true rfl)) dX6_evenly_13 ⟨Nat.le_of_ble_eq_true rfl, Nat.le_of_ble_eq_true rfl⟩) (fun r3 h => ?_)
        refine lv_iload_n hx hb dX6_evenly_16 rfl (lv_at hl 1 rfl) ?_
        refine lv_icmp_ge (tgt := 26) hx hb dX6_evenly_17 (by decide) (fun c4 => ?_) (fun c4 => ?_)
        · replace h := h.1 c4
          exact w26 l0 l1 l2 l3 h ls (lv_sub hl [0, 1, 2, 3] rfl)
        · replace h := h.2 c4
          refine lv_iload_n hx hb dX6_evenly_20 rfl (lv_at hl 2 rfl) ?_
          refine lv_iconst (v := 1) hx hb dX6_evenly_21 (by decide) ?_
          refine lv_iload_n hx hb dX6_evenly_22 rfl (lv_at hl 3 rfl) ?_
          refine lv_ishl hx hb dX6_evenly_23 ?_
          refine lv_ior hx hb dX6_evenly_24 ?_
          refine lv_topi (fun x5 ex5 => ?_)
          replace h := h x5 ex5
          refine lv_istore_n (lv' := [(2, .int x5), (0, .int l0), (1, .int l1), (3, .int l3)]) hx hb dX6_evenly_25 rfl hl (by decide) rfl (fun ls hl => ?_)
          exact w26 l0 l1 x5 l3 h ls (lv_sub hl [1, 2, 0, 3] rfl)
  have hl := lv_entry ([.int p0, .int p1]) (n := 4) (Nat.le_of_ble_eq_true rfl)
  rw [lg_entry_eq]
  generalize (lg_sl ([.int p0, .int p1]) ++ List.replicate (4 - (lg_sl ([.int p0, .int p1])).length) Slot.unset).toArray = ls at hl ⊢
  have hl : lv_has ls 4 [(0, .int p0), (1, .int p1)] := hl
  refine lv_iconst (v := 0) hx hb dX6_evenly_0 (by decide) ?_
  refine lv_istore_n (lv' := [(2, .int 0), (0, .int p0), (1, .int p1)]) hx hb dX6_evenly_1 rfl hl (by decide) rfl (fun ls hl => ?_)
  refine lv_iconst (v := 0) hx hb dX6_evenly_2 (by decide) ?_
  refine lv_istore_n (lv' := [(3, .int 0), (2, .int 0), (0, .int p0), (1, .int p1)]) hx hb dX6_evenly_3 rfl hl (by decide) rfl (fun ls hl => ?_)
  obtain ⟨k6, h⟩ := h
  exact w4 k6 p0 p1 0 0 h ls (lv_sub hl [2, 3, 1, 0] rfl)

def wp_X6_period_h2 (Q : Int32 → Prop) : Nat → Int32 → Int32 → Int32 → Prop
  | 0, _, _, _ => False
  | z2 + 1, l0, l1, l2 => (l0 ≤ l2 → (Q l0)) ∧ (¬ l0 ≤ l2 → (wp_X6_moved l0 l1 l2 fun (r2 : Int32) => (¬ r2 = l1 → (∀ x4 : Int32, x4 = l2 + 1 → (wp_X6_period_h2 Q z2) l0 l1 x4)) ∧ (r2 = l1 → (Q l2))))
def wp_X6_period (p0 : Int32) (p1 : Int32) (Q : Int32 → Prop) : Prop := ∃ k5 : Nat, wp_X6_period_h2 Q k5 p0 p1 1
abbrev rmX6_period : Room := { frames := 2, cells := 0, slots := 0, locals := 45 }
set_option maxHeartbeats 4000000 in
set_option maxRecDepth 100000 in
theorem c_X6_period (l : Launch) (p0 : Int32) (p1 : Int32) (Q : Int32 → Prop) (h : wp_X6_period p0 p1 Q) : Met l yX6_period wsX6_period (rmX6_period) (va_Pc [.int p0, .int p1] (fun U => nW U)) (vp_Si Q) 0 0 (fun _ => False) := by
  unfold wp_X6_period at h
  refine Met.ofW (cc := cX6_period) (maxL := 3) (ret := (some .int)) (by decide) rfl ?_
  intro p e s m args below meth c s₁ B hml hv
  obtain ⟨rfl, hN⟩ := hv
  have hx := B.exec
  have hb := B.bytes
  have hr := B.returns
  have hts := atoms_spec (ws := wsX6_period) B.pre
  have hown : s.vm.findClass RX6 = some m.cls := findClass_of_methodNamed B.named
  have hlocks := B.notSynchronized
  have w2 : ∀ (z2 : Nat) (l0 : Int32) (l1 : Int32) (l2 : Int32), wp_X6_period_h2 Q z2 l0 l1 l2 → ∀ (ls : Array Slot), lv_has ls 3 [(0, .int l0), (1, .int l1), (2, .int l2)] → W p l e (headSpec wsX6_period (rmX6_period)).room s m ([.int p0, .int p1] : List Value).toArray below meth c s.heap [] 0 0 (MQ below (vp_Si Q) ([.int p0, .int p1] : List Value).toArray s 0 0 (fun _ => False)) (F0 m 2 ls []) := by
    intro z2
    induction z2 with
    | zero => intro l0 l1 l2 h; unfold wp_X6_period_h2 at h; exact h.elim
    | succ z2 k2 =>
      intro l0 l1 l2 h ls hl
      unfold wp_X6_period_h2 at h
      refine lv_iload_n hx hb dX6_period_2 rfl (lv_at hl 2 rfl) ?_
      refine lv_iload_n hx hb dX6_period_3 rfl (lv_at hl 0 rfl) ?_
      refine lv_icmp_ge (tgt := 25) hx hb dX6_period_4 (by decide) (fun c1 => ?_) (fun c1 => ?_)
      · replace h := h.1 c1
        refine lv_iload_n hx hb dX6_period_25 rfl (lv_at hl 0 rfl) ?_
        exact W.iret (v := l0) hx hb hr (fun t ht hW => ⟨_, rfl, h, ht⟩) (fun _ h => by cases h) dX6_period_26
      · replace h := h.2 c1
        refine lv_iload_n hx hb dX6_period_7 rfl (lv_at hl 0 rfl) ?_
        refine lv_iload_n hx hb dX6_period_8 rfl (lv_at hl 1 rfl) ?_
        refine lv_iload_n hx hb dX6_period_9 rfl (lv_at hl 2 rfl) ?_
        refine vs_calli (va_runS (As := [.int l0, .int l1, .int l2]) (rest := []) ⟨hx, hb, hml, hown, hts⟩ (c_X6_moved l l0 l1 l2 _ h) (va_cwS 3 hts gX6_period_X6_moved rfl rfl rfl (by decide +kernel) ⟨Nat.le_of_ble_eq_true rfl, Nat.le_of_ble_eq_true rfl⟩) ⟨fun a U g mk q => ⟨q.1, nW_call q.2⟩, fun U hU hW => ⟨rfl, nW_warm hW hN⟩⟩ rfl rfl hl.1 rfl (lv_room (Nat.le_of_ble_eq_true rfl)) dX6_period_10 ⟨Nat.le_of_ble_eq_true rfl, Nat.le_of_ble_eq_true rfl⟩) (fun r2 h => ?_)
        refine lv_iload_n hx hb dX6_period_13 rfl (lv_at hl 1 rfl) ?_
        refine lv_icmp_ne (tgt := 19) hx hb dX6_period_14 (by decide) (fun c3 => ?_) (fun c3 => ?_)
        · replace h := h.1 c3
          obtain ⟨x4, ex4⟩ : ∃ y : Int32, y = l2 + 1 := ⟨_, rfl⟩
          replace h := h x4 ex4
          refine lv_iinc (v := x4) (lv' := [(2, .int x4), (0, .int l0), (1, .int l1)]) hx hb dX6_period_19 hl (k := 2) rfl (by rw [ex4]; rfl) (by decide) rfl (fun ls hl => ?_)
          refine lv_goto (tgt := 2) hx hb dX6_period_22 (by decide) ?_
          exact k2 l0 l1 x4 h ls (lv_sub hl [1, 2, 0] rfl)
        · replace h := h.2 c3
          refine lv_iload_n hx hb dX6_period_17 rfl (lv_at hl 2 rfl) ?_
          exact W.iret (v := l2) hx hb hr (fun t ht hW => ⟨_, rfl, h, ht⟩) (fun _ h => by cases h) dX6_period_18
  have hl := lv_entry ([.int p0, .int p1]) (n := 3) (Nat.le_of_ble_eq_true rfl)
  rw [lg_entry_eq]
  generalize (lg_sl ([.int p0, .int p1]) ++ List.replicate (3 - (lg_sl ([.int p0, .int p1])).length) Slot.unset).toArray = ls at hl ⊢
  have hl : lv_has ls 3 [(0, .int p0), (1, .int p1)] := hl
  refine lv_iconst (v := 1) hx hb dX6_period_0 (by decide) ?_
  refine lv_istore_n (lv' := [(2, .int 1), (0, .int p0), (1, .int p1)]) hx hb dX6_period_1 rfl hl (by decide) rfl (fun ls hl => ?_)
  obtain ⟨k5, h⟩ := h
  exact w2 k5 p0 p1 1 h ls (lv_sub hl [1, 2, 0] rfl)

def wp_X6_struckAt_j31 (L5 : Int32 → Int32 → Int32 → Int32 → Prop) (Q : Int32 → Prop) (l0 : Int32) (l1 : Int32) (l3 : Int32) (l4 : Int32) : Prop := ∀ x1 : Int32, x1 = l4 + 1 → L5 l0 l1 l3 x1
def wp_X6_struckAt_h5 (Q : Int32 → Prop) : Nat → Int32 → Int32 → Int32 → Int32 → Prop
  | 0, _, _, _, _ => False
  | z5 + 1, l0, l1, l3, l4 => (l0 ≤ l4 → (Q (-1))) ∧ (¬ l0 ≤ l4 → (wp_X6_bit l1 l4 fun (r3 : Int32) => (¬ r3 = 1 → (wp_X6_struckAt_j31 (wp_X6_struckAt_h5 Q z5) Q l0 l1 l3 l4)) ∧ (r3 = 1 → ((¬ l3 = 0 → (∀ x6 : Int32, x6 = l3 + (-1) → wp_X6_struckAt_j31 (wp_X6_struckAt_h5 Q z5) Q l0 l1 x6 l4)) ∧ (l3 = 0 → (Q l4))))))
def wp_X6_struckAt (p0 : Int32) (p1 : Int32) (p2 : Int32) (Q : Int32 → Prop) : Prop := ∃ k7 : Nat, wp_X6_struckAt_h5 Q k7 p0 p1 p2 0
abbrev rmX6_struckAt : Room := { frames := 1, cells := 0, slots := 0, locals := 21 }
set_option maxHeartbeats 4000000 in
set_option maxRecDepth 100000 in
theorem c_X6_struckAt (l : Launch) (p0 : Int32) (p1 : Int32) (p2 : Int32) (Q : Int32 → Prop) (h : wp_X6_struckAt p0 p1 p2 Q) : Met l yX6_struckAt wsX6_struckAt (rmX6_struckAt) (va_Pc [.int p0, .int p1, .int p2] (fun U => nW U)) (vp_Si Q) 0 0 (fun _ => False) := by
  unfold wp_X6_struckAt at h
  refine Met.ofW (cc := cX6_struckAt) (maxL := 5) (ret := (some .int)) (by decide) rfl ?_
  intro p e s m args below meth c s₁ B hml hv
  obtain ⟨rfl, hN⟩ := hv
  have hx := B.exec
  have hb := B.bytes
  have hr := B.returns
  have hts := atoms_spec (ws := wsX6_struckAt) B.pre
  have hown : s.vm.findClass RX6 = some m.cls := findClass_of_methodNamed B.named
  have hlocks := B.notSynchronized
  have w5 : ∀ (z5 : Nat) (l0 : Int32) (l1 : Int32) (l3 : Int32) (l4 : Int32), wp_X6_struckAt_h5 Q z5 l0 l1 l3 l4 → ∀ (ls : Array Slot), lv_has ls 5 [(0, .int l0), (1, .int l1), (3, .int l3), (4, .int l4)] → W p l e (headSpec wsX6_struckAt (rmX6_struckAt)).room s m ([.int p0, .int p1, .int p2] : List Value).toArray below meth c s.heap [] 0 0 (MQ below (vp_Si Q) ([.int p0, .int p1, .int p2] : List Value).toArray s 0 0 (fun _ => False)) (F0 m 5 ls []) := by
    intro z5
    induction z5 with
    | zero => intro l0 l1 l3 l4 h; unfold wp_X6_struckAt_h5 at h; exact h.elim
    | succ z5 k5 =>
      have w31 : ∀ (l0 : Int32) (l1 : Int32) (l3 : Int32) (l4 : Int32), wp_X6_struckAt_j31 (wp_X6_struckAt_h5 Q z5) Q l0 l1 l3 l4 → ∀ (ls : Array Slot), lv_has ls 5 [(0, .int l0), (1, .int l1), (3, .int l3), (4, .int l4)] → W p l e (headSpec wsX6_struckAt (rmX6_struckAt)).room s m ([.int p0, .int p1, .int p2] : List Value).toArray below meth c s.heap [] 0 0 (MQ below (vp_Si Q) ([.int p0, .int p1, .int p2] : List Value).toArray s 0 0 (fun _ => False)) (F0 m 31 ls []) := by
        intro l0 l1 l3 l4 h ls hl
        unfold wp_X6_struckAt_j31 at h
        obtain ⟨x1, ex1⟩ : ∃ y : Int32, y = l4 + 1 := ⟨_, rfl⟩
        replace h := h x1 ex1
        refine lv_iinc (v := x1) (lv' := [(4, .int x1), (0, .int l0), (1, .int l1), (3, .int l3)]) hx hb dX6_struckAt_31 hl (k := 3) rfl (by rw [ex1]; rfl) (by decide) rfl (fun ls hl => ?_)
        refine lv_goto (tgt := 5) hx hb dX6_struckAt_34 (by decide) ?_
        exact k5 l0 l1 l3 x1 h ls (lv_sub hl [1, 2, 3, 0] rfl)
      intro l0 l1 l3 l4 h ls hl
      unfold wp_X6_struckAt_h5 at h
      refine lv_iload hx hb dX6_struckAt_5 (lv_at hl 3 rfl) ?_
      refine lv_iload_n hx hb dX6_struckAt_7 rfl (lv_at hl 0 rfl) ?_
      refine lv_icmp_ge (tgt := 37) hx hb dX6_struckAt_8 (by decide) (fun c2 => ?_) (fun c2 => ?_)
      · replace h := h.1 c2
        refine lv_iconst (v := (-1)) hx hb dX6_struckAt_37 (by decide) ?_
        exact W.iret (v := (-1)) hx hb hr (fun t ht hW => ⟨_, rfl, h, ht⟩) (fun _ h => by cases h) dX6_struckAt_38
      · replace h := h.2 c2
        refine lv_iload_n hx hb dX6_struckAt_11 rfl (lv_at hl 1 rfl) ?_
        refine lv_iload hx hb dX6_struckAt_12 (lv_at hl 3 rfl) ?_
        refine vs_calli (va_runS (As := [.int l1, .int l4]) (rest := []) ⟨hx, hb, hml, hown, hts⟩ (c_X6_bit l l1 l4 _ h) (va_cwS 2 hts gX6_struckAt_X6_bit rfl rfl rfl (by decide +kernel) ⟨Nat.le_of_ble_eq_true rfl, Nat.le_of_ble_eq_true rfl⟩) ⟨fun a U g mk q => ⟨q.1, nW_call q.2⟩, fun U hU hW => ⟨rfl, nW_warm hW hN⟩⟩ rfl rfl hl.1 rfl (lv_room (Nat.le_of_ble_eq_true rfl)) dX6_struckAt_14 ⟨Nat.le_of_ble_eq_true rfl, Nat.le_of_ble_eq_true rfl⟩) (fun r3 h => ?_)
        refine lv_iconst (v := 1) hx hb dX6_struckAt_17 (by decide) ?_
        refine lv_icmp_ne (tgt := 31) hx hb dX6_struckAt_18 (by decide) (fun c4 => ?_) (fun c4 => ?_)
        · replace h := h.1 c4
          exact w31 l0 l1 l3 l4 h ls (lv_sub hl [0, 1, 2, 3] rfl)
        · replace h := h.2 c4
          refine lv_iload_n hx hb dX6_struckAt_21 rfl (lv_at hl 2 rfl) ?_
          refine lv_if_ne (tgt := 28) hx hb dX6_struckAt_22 (by decide) (fun c5 => ?_) (fun c5 => ?_)
          · replace h := h.1 c5
            obtain ⟨x6, ex6⟩ : ∃ y : Int32, y = l3 + (-1) := ⟨_, rfl⟩
            replace h := h x6 ex6
            refine lv_iinc (v := x6) (lv' := [(3, .int x6), (0, .int l0), (1, .int l1), (4, .int l4)]) hx hb dX6_struckAt_28 hl (k := 2) rfl (by rw [ex6]; rfl) (by decide) rfl (fun ls hl => ?_)
            exact w31 l0 l1 x6 l4 h ls (lv_sub hl [1, 2, 0, 3] rfl)
          · replace h := h.2 c5
            refine lv_iload hx hb dX6_struckAt_25 (lv_at hl 3 rfl) ?_
            exact W.iret (v := l4) hx hb hr (fun t ht hW => ⟨_, rfl, h, ht⟩) (fun _ h => by cases h) dX6_struckAt_27
  have hl := lv_entry ([.int p0, .int p1, .int p2]) (n := 5) (Nat.le_of_ble_eq_true rfl)
  rw [lg_entry_eq]
  generalize (lg_sl ([.int p0, .int p1, .int p2]) ++ List.replicate (5 - (lg_sl ([.int p0, .int p1, .int p2])).length) Slot.unset).toArray = ls at hl ⊢
  have hl : lv_has ls 5 [(0, .int p0), (1, .int p1), (2, .int p2)] := hl
  refine lv_iload_n hx hb dX6_struckAt_0 rfl (lv_at hl 2 rfl) ?_
  refine lv_istore_n (lv' := [(3, .int p2), (0, .int p0), (1, .int p1), (2, .int p2)]) hx hb dX6_struckAt_1 rfl hl (by decide) rfl (fun ls hl => ?_)
  refine lv_iconst (v := 0) hx hb dX6_struckAt_2 (by decide) ?_
  refine lv_istore (lv' := [(4, .int 0), (3, .int p2), (0, .int p0), (1, .int p1), (2, .int p2)]) hx hb dX6_struckAt_3 hl (by decide) rfl (fun ls hl => ?_)
  obtain ⟨k7, h⟩ := h
  exact w5 k7 p0 p1 p2 0 h ls (lv_sub hl [2, 3, 1, 0] rfl)

def wp_X6_gapAt_j14 (Q : Int32 → Prop)  : Prop := Q (-1)
def wp_X6_gapAt_j56 (Q : Int32 → Prop) (s0 : Int32) : Prop := Q s0
def wp_X6_gapAt (p0 : Int32) (p1 : Int32) (p2 : Int32) (Q : Int32 → Prop) : Prop := wp_J6_bitCount_0f7a4 p1 fun (r1 : Int32) => (p2 < 0 → (wp_X6_gapAt_j14 Q )) ∧ (¬ p2 < 0 → ((p2 < r1 → (wp_X6_struckAt p0 p1 p2 fun (r4 : Int32) => (r1 ≤ (p2 + 1) → (wp_X6_struckAt p0 p1 0 fun (r6 : Int32) => wp_X6_gapAt_j56 Q ((r6 + p0) - r4))) ∧ (¬ r1 ≤ (p2 + 1) → (wp_X6_struckAt p0 p1 (p2 + 1) fun (r7 : Int32) => wp_X6_gapAt_j56 Q (r7 - r4))))) ∧ (¬ p2 < r1 → (wp_X6_gapAt_j14 Q ))))
abbrev rmX6_gapAt : Room := { frames := 2, cells := 0, slots := 0, locals := 45 }
set_option maxHeartbeats 4000000 in
set_option maxRecDepth 100000 in
theorem c_X6_gapAt (l : Launch) (p0 : Int32) (p1 : Int32) (p2 : Int32) (Q : Int32 → Prop) (h : wp_X6_gapAt p0 p1 p2 Q) : Met l yX6_gapAt wsX6_gapAt (rmX6_gapAt) (va_Pc [.int p0, .int p1, .int p2] (fun U => nW U)) (vp_Si Q) 0 0 (fun _ => False) := by
  unfold wp_X6_gapAt at h
  refine Met.ofW (cc := cX6_gapAt) (maxL := 5) (ret := (some .int)) (by decide) rfl ?_
  intro p e s m args below meth c s₁ B hml hv
  obtain ⟨rfl, hN⟩ := hv
  have hx := B.exec
  have hb := B.bytes
  have hr := B.returns
  have hts := atoms_spec (ws := wsX6_gapAt) B.pre
  have hown : s.vm.findClass RX6 = some m.cls := findClass_of_methodNamed B.named
  have hlocks := B.notSynchronized
  have w14 : wp_X6_gapAt_j14 Q → ∀ (ls : Array Slot), lv_has ls 5 [] → W p l e (headSpec wsX6_gapAt (rmX6_gapAt)).room s m ([.int p0, .int p1, .int p2] : List Value).toArray below meth c s.heap [] 0 0 (MQ below (vp_Si Q) ([.int p0, .int p1, .int p2] : List Value).toArray s 0 0 (fun _ => False)) (F0 m 14 ls []) := by
    intro  h ls hl
    unfold wp_X6_gapAt_j14 at h
    refine lv_iconst (v := (-1)) hx hb dX6_gapAt_14 (by decide) ?_
    exact W.iret (v := (-1)) hx hb hr (fun t ht hW => ⟨_, rfl, h, ht⟩) (fun _ h => by cases h) dX6_gapAt_15
  have w56 : ∀ (s0 : Int32), wp_X6_gapAt_j56 Q s0 → ∀ (ls : Array Slot), lv_has ls 5 [] → W p l e (headSpec wsX6_gapAt (rmX6_gapAt)).room s m ([.int p0, .int p1, .int p2] : List Value).toArray below meth c s.heap [] 0 0 (MQ below (vp_Si Q) ([.int p0, .int p1, .int p2] : List Value).toArray s 0 0 (fun _ => False)) (F0 m 56 ls [.int s0]) := by
    intro s0 h ls hl
    unfold wp_X6_gapAt_j56 at h
    exact W.iret (v := s0) hx hb hr (fun t ht hW => ⟨_, rfl, h, ht⟩) (fun _ h => by cases h) dX6_gapAt_56
  have hl := lv_entry ([.int p0, .int p1, .int p2]) (n := 5) (Nat.le_of_ble_eq_true rfl)
  rw [lg_entry_eq]
  generalize (lg_sl ([.int p0, .int p1, .int p2]) ++ List.replicate (5 - (lg_sl ([.int p0, .int p1, .int p2])).length) Slot.unset).toArray = ls at hl ⊢
  have hl : lv_has ls 5 [(0, .int p0), (1, .int p1), (2, .int p2)] := hl
  refine lv_iload_n hx hb dX6_gapAt_0 rfl (lv_at hl 1 rfl) ?_
  refine vs_calli (va_runS (As := [.int p1]) (rest := []) ⟨hx, hb, hml, hown, hts⟩ (c_J6_bitCount_0f7a4 l p1 _ h) (va_cwS 1 hts gX6_gapAt_J6_bitCount_0f7a4 rfl rfl rfl (by decide +kernel) ⟨Nat.le_of_ble_eq_true rfl, Nat.le_of_ble_eq_true rfl⟩) ⟨fun a U g mk q => ⟨q.1, nW_call q.2⟩, fun U hU hW => ⟨rfl, nW_warm hW hN⟩⟩ rfl rfl hl.1 rfl (lv_room (Nat.le_of_ble_eq_true rfl)) dX6_gapAt_1 ⟨Nat.le_of_ble_eq_true rfl, Nat.le_of_ble_eq_true rfl⟩) (fun r1 h => ?_)
  refine lv_istore_n (lv' := [(3, .int r1), (0, .int p0), (1, .int p1), (2, .int p2)]) hx hb dX6_gapAt_4 rfl hl (by decide) rfl (fun ls hl => ?_)
  refine lv_iload_n hx hb dX6_gapAt_5 rfl (lv_at hl 3 rfl) ?_
  refine lv_if_lt (tgt := 14) hx hb dX6_gapAt_6 (by decide) (fun c2 => ?_) (fun c2 => ?_)
  · replace h := h.1 c2
    exact w14  h ls (lv_sub hl [] rfl)
  · replace h := h.2 c2
    refine lv_iload_n hx hb dX6_gapAt_9 rfl (lv_at hl 3 rfl) ?_
    refine lv_iload_n hx hb dX6_gapAt_10 rfl (lv_at hl 0 rfl) ?_
    refine lv_icmp_lt (tgt := 16) hx hb dX6_gapAt_11 (by decide) (fun c3 => ?_) (fun c3 => ?_)
    · replace h := h.1 c3
      refine lv_iload_n hx hb dX6_gapAt_16 rfl (lv_at hl 1 rfl) ?_
      refine lv_iload_n hx hb dX6_gapAt_17 rfl (lv_at hl 2 rfl) ?_
      refine lv_iload_n hx hb dX6_gapAt_18 rfl (lv_at hl 3 rfl) ?_
      refine vs_calli (va_runS (As := [.int p0, .int p1, .int p2]) (rest := []) ⟨hx, hb, hml, hown, hts⟩ (c_X6_struckAt l p0 p1 p2 _ h) (va_cwS 3 hts gX6_gapAt_X6_struckAt rfl rfl rfl (by decide +kernel) ⟨Nat.le_of_ble_eq_true rfl, Nat.le_of_ble_eq_true rfl⟩) ⟨fun a U g mk q => ⟨q.1, nW_call q.2⟩, fun U hU hW => ⟨rfl, nW_warm hW hN⟩⟩ rfl rfl hl.1 rfl (lv_room (Nat.le_of_ble_eq_true rfl)) dX6_gapAt_19 ⟨Nat.le_of_ble_eq_true rfl, Nat.le_of_ble_eq_true rfl⟩) (fun r4 h => ?_)
      refine lv_istore (lv' := [(4, .int r4), (3, .int r1), (0, .int p0), (1, .int p1), (2, .int p2)]) hx hb dX6_gapAt_22 hl (by decide) rfl (fun ls hl => ?_)
      refine lv_iload_n hx hb dX6_gapAt_24 rfl (lv_at hl 4 rfl) ?_
      refine lv_iconst (v := 1) hx hb dX6_gapAt_25 (by decide) ?_
      refine lv_iadd hx hb dX6_gapAt_26 ?_
      refine lv_iload_n hx hb dX6_gapAt_27 rfl (lv_at hl 1 rfl) ?_
      refine lv_icmp_ge (tgt := 45) hx hb dX6_gapAt_28 (by decide) (fun c5 => ?_) (fun c5 => ?_)
      · replace h := h.1 c5
        refine lv_iload_n hx hb dX6_gapAt_45 rfl (lv_at hl 2 rfl) ?_
        refine lv_iload_n hx hb dX6_gapAt_46 rfl (lv_at hl 3 rfl) ?_
        refine lv_iconst (v := 0) hx hb dX6_gapAt_47 (by decide) ?_
        refine vs_calli (va_runS (As := [.int p0, .int p1, .int 0]) (rest := []) ⟨hx, hb, hml, hown, hts⟩ (c_X6_struckAt l p0 p1 0 _ h) (va_cwS 3 hts gX6_gapAt_X6_struckAt rfl rfl rfl (by decide +kernel) ⟨Nat.le_of_ble_eq_true rfl, Nat.le_of_ble_eq_true rfl⟩) ⟨fun a U g mk q => ⟨q.1, nW_call q.2⟩, fun U hU hW => ⟨rfl, nW_warm hW hN⟩⟩ rfl rfl hl.1 rfl (lv_room (Nat.le_of_ble_eq_true rfl)) dX6_gapAt_48 ⟨Nat.le_of_ble_eq_true rfl, Nat.le_of_ble_eq_true rfl⟩) (fun r6 h => ?_)
        refine lv_iload_n hx hb dX6_gapAt_51 rfl (lv_at hl 2 rfl) ?_
        refine lv_iadd hx hb dX6_gapAt_52 ?_
        refine lv_iload hx hb dX6_gapAt_53 (lv_at hl 0 rfl) ?_
        refine lv_isub hx hb dX6_gapAt_55 ?_
        exact w56 ((r6 + p0) - r4) h ls (lv_sub hl [] rfl)
      · replace h := h.2 c5
        refine lv_iload_n hx hb dX6_gapAt_31 rfl (lv_at hl 2 rfl) ?_
        refine lv_iload_n hx hb dX6_gapAt_32 rfl (lv_at hl 3 rfl) ?_
        refine lv_iload_n hx hb dX6_gapAt_33 rfl (lv_at hl 4 rfl) ?_
        refine lv_iconst (v := 1) hx hb dX6_gapAt_34 (by decide) ?_
        refine lv_iadd hx hb dX6_gapAt_35 ?_
        refine vs_calli (va_runS (As := [.int p0, .int p1, .int (p2 + 1)]) (rest := []) ⟨hx, hb, hml, hown, hts⟩ (c_X6_struckAt l p0 p1 (p2 + 1) _ h) (va_cwS 3 hts gX6_gapAt_X6_struckAt rfl rfl rfl (by decide +kernel) ⟨Nat.le_of_ble_eq_true rfl, Nat.le_of_ble_eq_true rfl⟩) ⟨fun a U g mk q => ⟨q.1, nW_call q.2⟩, fun U hU hW => ⟨rfl, nW_warm hW hN⟩⟩ rfl rfl hl.1 rfl (lv_room (Nat.le_of_ble_eq_true rfl)) dX6_gapAt_36 ⟨Nat.le_of_ble_eq_true rfl, Nat.le_of_ble_eq_true rfl⟩) (fun r7 h => ?_)
        refine lv_iload hx hb dX6_gapAt_39 (lv_at hl 0 rfl) ?_
        refine lv_isub hx hb dX6_gapAt_41 ?_
        refine lv_goto (tgt := 56) hx hb dX6_gapAt_42 (by decide) ?_
        exact w56 (r7 - r4) h ls (lv_sub hl [] rfl)
    · replace h := h.2 c3
      exact w14  h ls (lv_sub hl [] rfl)

def wp_X6_leastGap_h9 (Q : Int32 → Prop) : Nat → Int32 → Int32 → Int32 → Int32 → Prop
  | 0, _, _, _, _ => False
  | z9 + 1, l0, l1, l2, l3 => wp_J6_bitCount_0f7a4 l1 fun (r1 : Int32) => (r1 ≤ l3 → (Q l2)) ∧ (¬ r1 ≤ l3 → (wp_X6_gapAt l0 l1 l3 fun (r3 : Int32) => ∀ x4 : Int32, x4 = (if r3 < l2 then r3 else l2) → ∀ x5 : Int32, x5 = l3 + 1 → (wp_X6_leastGap_h9 Q z9) l0 l1 x4 x5))
def wp_X6_leastGap (p0 : Int32) (p1 : Int32) (Q : Int32 → Prop) : Prop := wp_X6_gapAt p0 p1 0 fun (r6 : Int32) => ∃ k7 : Nat, wp_X6_leastGap_h9 Q k7 p0 p1 r6 1
abbrev rmX6_leastGap : Room := { frames := 3, cells := 0, slots := 0, locals := 69 }
set_option maxHeartbeats 4000000 in
set_option maxRecDepth 100000 in
theorem c_X6_leastGap (l : Launch) (p0 : Int32) (p1 : Int32) (Q : Int32 → Prop) (h : wp_X6_leastGap p0 p1 Q) : Met l yX6_leastGap wsX6_leastGap (rmX6_leastGap) (va_Pc [.int p0, .int p1] (fun U => nW U)) (vp_Si Q) 0 0 (fun _ => False) := by
  unfold wp_X6_leastGap at h
  refine Met.ofW (cc := cX6_leastGap) (maxL := 4) (ret := (some .int)) (by decide) rfl ?_
  intro p e s m args below meth c s₁ B hml hv
  obtain ⟨rfl, hN⟩ := hv
  have hx := B.exec
  have hb := B.bytes
  have hr := B.returns
  have hts := atoms_spec (ws := wsX6_leastGap) B.pre
  have hown : s.vm.findClass RX6 = some m.cls := findClass_of_methodNamed B.named
  have hlocks := B.notSynchronized
  have w9 : ∀ (z9 : Nat) (l0 : Int32) (l1 : Int32) (l2 : Int32) (l3 : Int32), wp_X6_leastGap_h9 Q z9 l0 l1 l2 l3 → ∀ (ls : Array Slot), lv_has ls 4 [(0, .int l0), (1, .int l1), (2, .int l2), (3, .int l3)] → W p l e (headSpec wsX6_leastGap (rmX6_leastGap)).room s m ([.int p0, .int p1] : List Value).toArray below meth c s.heap [] 0 0 (MQ below (vp_Si Q) ([.int p0, .int p1] : List Value).toArray s 0 0 (fun _ => False)) (F0 m 9 ls []) := by
    intro z9
    induction z9 with
    | zero => intro l0 l1 l2 l3 h; unfold wp_X6_leastGap_h9 at h; exact h.elim
    | succ z9 k9 =>
      intro l0 l1 l2 l3 h ls hl
      unfold wp_X6_leastGap_h9 at h
      refine lv_iload_n hx hb dX6_leastGap_9 rfl (lv_at hl 3 rfl) ?_
      refine lv_iload_n hx hb dX6_leastGap_10 rfl (lv_at hl 1 rfl) ?_
      refine vs_calli (va_runS (As := [.int l1]) (rest := [.int l3]) ⟨hx, hb, hml, hown, hts⟩ (c_J6_bitCount_0f7a4 l l1 _ h) (va_cwS 1 hts gX6_leastGap_J6_bitCount_0f7a4 rfl rfl rfl (by decide +kernel) ⟨Nat.le_of_ble_eq_true rfl, Nat.le_of_ble_eq_true rfl⟩) ⟨fun a U g mk q => ⟨q.1, nW_call q.2⟩, fun U hU hW => ⟨rfl, nW_warm hW hN⟩⟩ rfl rfl hl.1 rfl (lv_room (Nat.le_of_ble_eq_true rfl)) dX6_leastGap_11 ⟨Nat.le_of_ble_eq_true rfl, Nat.le_of_ble_eq_true rfl⟩) (fun r1 h => ?_)
      refine lv_icmp_ge (tgt := 34) hx hb dX6_leastGap_14 (by decide) (fun c2 => ?_) (fun c2 => ?_)
      · replace h := h.1 c2
        refine lv_iload_n hx hb dX6_leastGap_34 rfl (lv_at hl 2 rfl) ?_
        exact W.iret (v := l2) hx hb hr (fun t ht hW => ⟨_, rfl, h, ht⟩) (fun _ h => by cases h) dX6_leastGap_35
      · replace h := h.2 c2
        refine lv_iload_n hx hb dX6_leastGap_17 rfl (lv_at hl 2 rfl) ?_
        refine lv_iload_n hx hb dX6_leastGap_18 rfl (lv_at hl 0 rfl) ?_
        refine lv_iload_n hx hb dX6_leastGap_19 rfl (lv_at hl 1 rfl) ?_
        refine lv_iload_n hx hb dX6_leastGap_20 rfl (lv_at hl 3 rfl) ?_
        refine vs_calli (va_runS (As := [.int l0, .int l1, .int l3]) (rest := [.int l2]) ⟨hx, hb, hml, hown, hts⟩ (c_X6_gapAt l l0 l1 l3 _ h) (va_cwS 3 hts gX6_leastGap_X6_gapAt rfl rfl rfl (by decide +kernel) ⟨Nat.le_of_ble_eq_true rfl, Nat.le_of_ble_eq_true rfl⟩) ⟨fun a U g mk q => ⟨q.1, nW_call q.2⟩, fun U hU hW => ⟨rfl, nW_warm hW hN⟩⟩ rfl rfl hl.1 rfl (lv_room (Nat.le_of_ble_eq_true rfl)) dX6_leastGap_21 ⟨Nat.le_of_ble_eq_true rfl, Nat.le_of_ble_eq_true rfl⟩) (fun r3 h => ?_)
        refine va_mmin hx hb (by rw [hml]; exact hl.1.symm) hown (hts (.methodLink RX6 43 Lib.Math.min.name) (by decide +kernel)) (hts (.static Lib.Math.min.name) (by decide +kernel)) (hts (.initialized "java/lang/Math") (by decide +kernel)) (hts (.code Lib.Math.min.name Lib.Math.min.code 2 (some .int)) (by decide +kernel)) (Nat.le_of_ble_eq_true rfl) (Nat.le_of_ble_eq_true rfl) (Nat.le_of_ble_eq_true rfl) (Nat.le_of_ble_eq_true rfl) dX6_leastGap_24 ?_
        refine lv_topi (fun x4 ex4 => ?_)
        replace h := h x4 ex4
        refine lv_istore_n (lv' := [(2, .int x4), (0, .int l0), (1, .int l1), (3, .int l3)]) hx hb dX6_leastGap_27 rfl hl (by decide) rfl (fun ls hl => ?_)
        obtain ⟨x5, ex5⟩ : ∃ y : Int32, y = l3 + 1 := ⟨_, rfl⟩
        replace h := h x5 ex5
        refine lv_iinc (v := x5) (lv' := [(3, .int x5), (2, .int x4), (0, .int l0), (1, .int l1)]) hx hb dX6_leastGap_28 hl (k := 3) rfl (by rw [ex5]; rfl) (by decide) rfl (fun ls hl => ?_)
        refine lv_goto (tgt := 9) hx hb dX6_leastGap_31 (by decide) ?_
        exact k9 l0 l1 x4 x5 h ls (lv_sub hl [2, 3, 1, 0] rfl)
  have hl := lv_entry ([.int p0, .int p1]) (n := 4) (Nat.le_of_ble_eq_true rfl)
  rw [lg_entry_eq]
  generalize (lg_sl ([.int p0, .int p1]) ++ List.replicate (4 - (lg_sl ([.int p0, .int p1])).length) Slot.unset).toArray = ls at hl ⊢
  have hl : lv_has ls 4 [(0, .int p0), (1, .int p1)] := hl
  refine lv_iload_n hx hb dX6_leastGap_0 rfl (lv_at hl 0 rfl) ?_
  refine lv_iload_n hx hb dX6_leastGap_1 rfl (lv_at hl 1 rfl) ?_
  refine lv_iconst (v := 0) hx hb dX6_leastGap_2 (by decide) ?_
  refine vs_calli (va_runS (As := [.int p0, .int p1, .int 0]) (rest := []) ⟨hx, hb, hml, hown, hts⟩ (c_X6_gapAt l p0 p1 0 _ h) (va_cwS 3 hts gX6_leastGap_X6_gapAt rfl rfl rfl (by decide +kernel) ⟨Nat.le_of_ble_eq_true rfl, Nat.le_of_ble_eq_true rfl⟩) ⟨fun a U g mk q => ⟨q.1, nW_call q.2⟩, fun U hU hW => ⟨rfl, nW_warm hW hN⟩⟩ rfl rfl hl.1 rfl (lv_room (Nat.le_of_ble_eq_true rfl)) dX6_leastGap_3 ⟨Nat.le_of_ble_eq_true rfl, Nat.le_of_ble_eq_true rfl⟩) (fun r6 h => ?_)
  refine lv_istore_n (lv' := [(2, .int r6), (0, .int p0), (1, .int p1)]) hx hb dX6_leastGap_6 rfl hl (by decide) rfl (fun ls hl => ?_)
  refine lv_iconst (v := 1) hx hb dX6_leastGap_7 (by decide) ?_
  refine lv_istore_n (lv' := [(3, .int 1), (2, .int r6), (0, .int p0), (1, .int p1)]) hx hb dX6_leastGap_8 rfl hl (by decide) rfl (fun ls hl => ?_)
  obtain ⟨k7, h⟩ := h
  exact w9 k7 p0 p1 r6 1 h ls (lv_sub hl [2, 3, 1, 0] rfl)

def wp_X6_greatestGap_h9 (Q : Int32 → Prop) : Nat → Int32 → Int32 → Int32 → Int32 → Prop
  | 0, _, _, _, _ => False
  | z9 + 1, l0, l1, l2, l3 => wp_J6_bitCount_0f7a4 l1 fun (r1 : Int32) => (r1 ≤ l3 → (Q l2)) ∧ (¬ r1 ≤ l3 → (wp_X6_gapAt l0 l1 l3 fun (r3 : Int32) => ∀ x4 : Int32, x4 = (if l2 < r3 then r3 else l2) → ∀ x5 : Int32, x5 = l3 + 1 → (wp_X6_greatestGap_h9 Q z9) l0 l1 x4 x5))
def wp_X6_greatestGap (p0 : Int32) (p1 : Int32) (Q : Int32 → Prop) : Prop := wp_X6_gapAt p0 p1 0 fun (r6 : Int32) => ∃ k7 : Nat, wp_X6_greatestGap_h9 Q k7 p0 p1 r6 1
abbrev rmX6_greatestGap : Room := { frames := 3, cells := 0, slots := 0, locals := 69 }
set_option maxHeartbeats 4000000 in
set_option maxRecDepth 100000 in
theorem c_X6_greatestGap (l : Launch) (p0 : Int32) (p1 : Int32) (Q : Int32 → Prop) (h : wp_X6_greatestGap p0 p1 Q) : Met l yX6_greatestGap wsX6_greatestGap (rmX6_greatestGap) (va_Pc [.int p0, .int p1] (fun U => nW U)) (vp_Si Q) 0 0 (fun _ => False) := by
  unfold wp_X6_greatestGap at h
  refine Met.ofW (cc := cX6_greatestGap) (maxL := 4) (ret := (some .int)) (by decide) rfl ?_
  intro p e s m args below meth c s₁ B hml hv
  obtain ⟨rfl, hN⟩ := hv
  have hx := B.exec
  have hb := B.bytes
  have hr := B.returns
  have hts := atoms_spec (ws := wsX6_greatestGap) B.pre
  have hown : s.vm.findClass RX6 = some m.cls := findClass_of_methodNamed B.named
  have hlocks := B.notSynchronized
  have w9 : ∀ (z9 : Nat) (l0 : Int32) (l1 : Int32) (l2 : Int32) (l3 : Int32), wp_X6_greatestGap_h9 Q z9 l0 l1 l2 l3 → ∀ (ls : Array Slot), lv_has ls 4 [(0, .int l0), (1, .int l1), (2, .int l2), (3, .int l3)] → W p l e (headSpec wsX6_greatestGap (rmX6_greatestGap)).room s m ([.int p0, .int p1] : List Value).toArray below meth c s.heap [] 0 0 (MQ below (vp_Si Q) ([.int p0, .int p1] : List Value).toArray s 0 0 (fun _ => False)) (F0 m 9 ls []) := by
    intro z9
    induction z9 with
    | zero => intro l0 l1 l2 l3 h; unfold wp_X6_greatestGap_h9 at h; exact h.elim
    | succ z9 k9 =>
      intro l0 l1 l2 l3 h ls hl
      unfold wp_X6_greatestGap_h9 at h
      refine lv_iload_n hx hb dX6_greatestGap_9 rfl (lv_at hl 3 rfl) ?_
      refine lv_iload_n hx hb dX6_greatestGap_10 rfl (lv_at hl 1 rfl) ?_
      refine vs_calli (va_runS (As := [.int l1]) (rest := [.int l3]) ⟨hx, hb, hml, hown, hts⟩ (c_J6_bitCount_0f7a4 l l1 _ h) (va_cwS 1 hts gX6_greatestGap_J6_bitCount_0f7a4 rfl rfl rfl (by decide +kernel) ⟨Nat.le_of_ble_eq_true rfl, Nat.le_of_ble_eq_true rfl⟩) ⟨fun a U g mk q => ⟨q.1, nW_call q.2⟩, fun U hU hW => ⟨rfl, nW_warm hW hN⟩⟩ rfl rfl hl.1 rfl (lv_room (Nat.le_of_ble_eq_true rfl)) dX6_greatestGap_11 ⟨Nat.le_of_ble_eq_true rfl, Nat.le_of_ble_eq_true rfl⟩) (fun r1 h => ?_)
      refine lv_icmp_ge (tgt := 34) hx hb dX6_greatestGap_14 (by decide) (fun c2 => ?_) (fun c2 => ?_)
      · replace h := h.1 c2
        refine lv_iload_n hx hb dX6_greatestGap_34 rfl (lv_at hl 2 rfl) ?_
        exact W.iret (v := l2) hx hb hr (fun t ht hW => ⟨_, rfl, h, ht⟩) (fun _ h => by cases h) dX6_greatestGap_35
      · replace h := h.2 c2
        refine lv_iload_n hx hb dX6_greatestGap_17 rfl (lv_at hl 2 rfl) ?_
        refine lv_iload_n hx hb dX6_greatestGap_18 rfl (lv_at hl 0 rfl) ?_
        refine lv_iload_n hx hb dX6_greatestGap_19 rfl (lv_at hl 1 rfl) ?_
        refine lv_iload_n hx hb dX6_greatestGap_20 rfl (lv_at hl 3 rfl) ?_
        refine vs_calli (va_runS (As := [.int l0, .int l1, .int l3]) (rest := [.int l2]) ⟨hx, hb, hml, hown, hts⟩ (c_X6_gapAt l l0 l1 l3 _ h) (va_cwS 3 hts gX6_greatestGap_X6_gapAt rfl rfl rfl (by decide +kernel) ⟨Nat.le_of_ble_eq_true rfl, Nat.le_of_ble_eq_true rfl⟩) ⟨fun a U g mk q => ⟨q.1, nW_call q.2⟩, fun U hU hW => ⟨rfl, nW_warm hW hN⟩⟩ rfl rfl hl.1 rfl (lv_room (Nat.le_of_ble_eq_true rfl)) dX6_greatestGap_21 ⟨Nat.le_of_ble_eq_true rfl, Nat.le_of_ble_eq_true rfl⟩) (fun r3 h => ?_)
        refine va_mmax hx hb (by rw [hml]; exact hl.1.symm) hown (hts (.methodLink RX6 48 Lib.Math.max.name) (by decide +kernel)) (hts (.static Lib.Math.max.name) (by decide +kernel)) (hts (.initialized "java/lang/Math") (by decide +kernel)) (hts (.code Lib.Math.max.name Lib.Math.max.code 2 (some .int)) (by decide +kernel)) (Nat.le_of_ble_eq_true rfl) (Nat.le_of_ble_eq_true rfl) (Nat.le_of_ble_eq_true rfl) (Nat.le_of_ble_eq_true rfl) dX6_greatestGap_24 ?_
        refine lv_topi (fun x4 ex4 => ?_)
        replace h := h x4 ex4
        refine lv_istore_n (lv' := [(2, .int x4), (0, .int l0), (1, .int l1), (3, .int l3)]) hx hb dX6_greatestGap_27 rfl hl (by decide) rfl (fun ls hl => ?_)
        obtain ⟨x5, ex5⟩ : ∃ y : Int32, y = l3 + 1 := ⟨_, rfl⟩
        replace h := h x5 ex5
        refine lv_iinc (v := x5) (lv' := [(3, .int x5), (2, .int x4), (0, .int l0), (1, .int l1)]) hx hb dX6_greatestGap_28 hl (k := 3) rfl (by rw [ex5]; rfl) (by decide) rfl (fun ls hl => ?_)
        refine lv_goto (tgt := 9) hx hb dX6_greatestGap_31 (by decide) ?_
        exact k9 l0 l1 x4 x5 h ls (lv_sub hl [2, 3, 1, 0] rfl)
  have hl := lv_entry ([.int p0, .int p1]) (n := 4) (Nat.le_of_ble_eq_true rfl)
  rw [lg_entry_eq]
  generalize (lg_sl ([.int p0, .int p1]) ++ List.replicate (4 - (lg_sl ([.int p0, .int p1])).length) Slot.unset).toArray = ls at hl ⊢
  have hl : lv_has ls 4 [(0, .int p0), (1, .int p1)] := hl
  refine lv_iload_n hx hb dX6_greatestGap_0 rfl (lv_at hl 0 rfl) ?_
  refine lv_iload_n hx hb dX6_greatestGap_1 rfl (lv_at hl 1 rfl) ?_
  refine lv_iconst (v := 0) hx hb dX6_greatestGap_2 (by decide) ?_
  refine vs_calli (va_runS (As := [.int p0, .int p1, .int 0]) (rest := []) ⟨hx, hb, hml, hown, hts⟩ (c_X6_gapAt l p0 p1 0 _ h) (va_cwS 3 hts gX6_greatestGap_X6_gapAt rfl rfl rfl (by decide +kernel) ⟨Nat.le_of_ble_eq_true rfl, Nat.le_of_ble_eq_true rfl⟩) ⟨fun a U g mk q => ⟨q.1, nW_call q.2⟩, fun U hU hW => ⟨rfl, nW_warm hW hN⟩⟩ rfl rfl hl.1 rfl (lv_room (Nat.le_of_ble_eq_true rfl)) dX6_greatestGap_3 ⟨Nat.le_of_ble_eq_true rfl, Nat.le_of_ble_eq_true rfl⟩) (fun r6 h => ?_)
  refine lv_istore_n (lv' := [(2, .int r6), (0, .int p0), (1, .int p1)]) hx hb dX6_greatestGap_6 rfl hl (by decide) rfl (fun ls hl => ?_)
  refine lv_iconst (v := 1) hx hb dX6_greatestGap_7 (by decide) ?_
  refine lv_istore_n (lv' := [(3, .int 1), (2, .int r6), (0, .int p0), (1, .int p1)]) hx hb dX6_greatestGap_8 rfl hl (by decide) rfl (fun ls hl => ?_)
  obtain ⟨k7, h⟩ := h
  exact w9 k7 p0 p1 r6 1 h ls (lv_sub hl [2, 3, 1, 0] rfl)
