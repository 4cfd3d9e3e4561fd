def wp_X6_leftOver_j22 (Q : Int32 → Prop) (s0 : Int32) : Prop := Q s0
def wp_X6_leftOver (p0 : Int32) (p1 : Int32) (Q : Int32 → Prop) : Prop := (1 ≤ p1 → ((¬ (p1 : Int32) = 0) ∧ ∀ x2 : Int32, x2 = (p0 - p0 / p1 * p1) → (0 ≤ x2 → (wp_X6_leftOver_j22 Q x2)) ∧ (¬ 0 ≤ x2 → (wp_X6_leftOver_j22 Q (x2 + p1))))) ∧ (¬ 1 ≤ p1 → (Q 0))
abbrev rmX6_leftOver : Room := { frames := 0, cells := 0, slots := 0, locals := 0 }
set_option maxHeartbeats 4000000 in
set_option maxRecDepth 100000 in
theorem c_X6_leftOver (l : Launch) (p0 : Int32) (p1 : Int32) (Q : Int32 → Prop) (h : wp_X6_leftOver p0 p1 Q) : Met l yX6_leftOver wsX6_leftOver (rmX6_leftOver) (va_Pc [.int p0, .int p1] (fun U => nW U)) (vp_Si Q) 0 0 (fun _ => False) := by
  unfold wp_X6_leftOver at h
  refine Met.ofW (cc := cX6_leftOver) (maxL := 3) (ret := (some .int)) (by decide) rfl ?_
  intro p e s m args below meth c s₁ B hml hv
  obtain ⟨rfl, hN⟩ := hv
  have hx := B.exec
  have hb := B.bytes
  have hr := B.returns
  have hts := atoms_spec (ws := wsX6_leftOver) B.pre
  have hown : s.vm.findClass RX6 = some m.cls := findClass_of_methodNamed B.named
  have hlocks := B.notSynchronized
  have w22 : ∀ (s0 : Int32), wp_X6_leftOver_j22 Q s0 → ∀ (ls : Array Slot), lv_has ls 3 [] → W p l e (headSpec wsX6_leftOver (rmX6_leftOver)).room s m ([.int p0, .int p1] : List Value).toArray below meth c s.heap [] 0 0 (MQ below (vp_Si Q) ([.int p0, .int p1] : List Value).toArray s 0 0 (fun _ => False)) (F0 m 22 ls [.int s0]) := by
    intro s0 h ls hl
    unfold wp_X6_leftOver_j22 at h
    exact W.iret (v := s0) hx hb hr (fun t ht hW => ⟨_, rfl, h, ht⟩) (fun _ h => by cases h) dX6_leftOver_22
  have hl := lv_entry ([.int p0, .int p1]) (n := 3) (Nat.le_of_ble_eq_true rfl)
  rw [lg_entry_eq]
  generalize (lg_sl ([.int p0, .int p1]) ++ List.replicate (3 - (lg_sl ([.int p0, .int p1])).length) Slot.unset).toArray = ls at hl ⊢
  have hl : lv_has ls 3 [(0, .int p0), (1, .int p1)] := hl
  refine lv_iload_n hx hb dX6_leftOver_0 rfl (lv_at hl 1 rfl) ?_
  refine lv_iconst (v := 1) hx hb dX6_leftOver_1 (by decide) ?_
  refine lv_icmp_ge (tgt := 7) hx hb dX6_leftOver_2 (by decide) (fun c1 => ?_) (fun c1 => ?_)
  · replace h := h.1 c1
    refine lv_iload_n hx hb dX6_leftOver_7 rfl (lv_at hl 0 rfl) ?_
    refine lv_iload_n hx hb dX6_leftOver_8 rfl (lv_at hl 1 rfl) ?_
    refine lv_irem hx hb dX6_leftOver_9 h.1 ?_
    replace h := h.2
    refine lv_topi (fun x2 ex2 => ?_)
    replace h := h x2 ex2
    refine lv_istore_n (lv' := [(2, .int x2), (0, .int p0), (1, .int p1)]) hx hb dX6_leftOver_10 rfl hl (by decide) rfl (fun ls hl => ?_)
    refine lv_iload_n hx hb dX6_leftOver_11 rfl (lv_at hl 0 rfl) ?_
    refine lv_if_ge (tgt := 21) hx hb dX6_leftOver_12 (by decide) (fun c3 => ?_) (fun c3 => ?_)
    · replace h := h.1 c3
      refine lv_iload_n hx hb dX6_leftOver_21 rfl (lv_at hl 0 rfl) ?_
      exact w22 x2 h ls (lv_sub hl [] rfl)
    · replace h := h.2 c3
      refine lv_iload_n hx hb dX6_leftOver_15 rfl (lv_at hl 0 rfl) ?_
      refine lv_iload_n hx hb dX6_leftOver_16 rfl (lv_at hl 2 rfl) ?_
      refine lv_iadd hx hb dX6_leftOver_17 ?_
      refine lv_goto (tgt := 22) hx hb dX6_leftOver_18 (by decide) ?_
      exact w22 (x2 + p1) h ls (lv_sub hl [] rfl)
  · replace h := h.2 c1
    refine lv_iconst (v := 0) hx hb dX6_leftOver_5 (by decide) ?_
    exact W.iret (v := 0) hx hb hr (fun t ht hW => ⟨_, rfl, h, ht⟩) (fun _ h => by cases h) dX6_leftOver_6

def wp_X0_commonDivisor_j25 (L2 : Int32 → Int32 → Int32 → Prop) (Q : Int32 → Prop) (l0 : Int32) (l1 : Int32) (l2 : Int32) : Prop := ∀ x1 : Int32, x1 = l2 + (-1) → L2 l0 l1 x1
def wp_X0_commonDivisor_h2 (Q : Int32 → Prop) : Nat → Int32 → Int32 → Int32 → Prop
  | 0, _, _, _ => False
  | z2 + 1, l0, l1, l2 => (l2 ≤ 1 → (Q 1)) ∧ (¬ l2 ≤ 1 → (wp_X6_leftOver l0 l2 fun (r3 : Int32) => (¬ r3 = 0 → (wp_X0_commonDivisor_j25 (wp_X0_commonDivisor_h2 Q z2) Q l0 l1 l2)) ∧ (r3 = 0 → (wp_X6_leftOver l1 l2 fun (r5 : Int32) => (¬ r5 = 0 → (wp_X0_commonDivisor_j25 (wp_X0_commonDivisor_h2 Q z2) Q l0 l1 l2)) ∧ (r5 = 0 → (Q l2))))))
def wp_X0_commonDivisor (p0 : Int32) (p1 : Int32) (Q : Int32 → Prop) : Prop := ∃ k7 : Nat, wp_X0_commonDivisor_h2 Q k7 p0 p1 p0
abbrev rmX0_commonDivisor : Room := { frames := 1, cells := 0, slots := 0, locals := 22 }
set_option maxHeartbeats 4000000 in
set_option maxRecDepth 100000 in
theorem c_X0_commonDivisor (l : Launch) (p0 : Int32) (p1 : Int32) (Q : Int32 → Prop) (h : wp_X0_commonDivisor p0 p1 Q) : Met l yX0_commonDivisor wsX0_commonDivisor (rmX0_commonDivisor) (va_Pc [.int p0, .int p1] (fun U => nW U)) (vp_Si Q) 0 0 (fun _ => False) := by
  unfold wp_X0_commonDivisor at h
  refine Met.ofW (cc := cX0_commonDivisor) (maxL := 3) (ret := (some .int)) (by decide) rfl ?_
  intro p e s m args below meth c s₁ B hml hv
  obtain ⟨rfl, hN⟩ := hv
  have hx := B.exec
  have hb := B.bytes
  have hr := B.returns
  have hts := atoms_spec (ws := wsX0_commonDivisor) B.pre
  have hown : s.vm.findClass RX0 = some m.cls := findClass_of_methodNamed B.named
  have hlocks := B.notSynchronized
  have w2 : ∀ (z2 : Nat) (l0 : Int32) (l1 : Int32) (l2 : Int32), wp_X0_commonDivisor_h2 Q z2 l0 l1 l2 → ∀ (ls : Array Slot), lv_has ls 3 [(0, .int l0), (1, .int l1), (2, .int l2)] → W p l e (headSpec wsX0_commonDivisor (rmX0_commonDivisor)).room s m ([.int p0, .int p1] : List Value).toArray below meth c s.heap [] 0 0 (MQ below (vp_Si Q) ([.int p0, .int p1] : List Value).toArray s 0 0 (fun _ => False)) (F0 m 2 ls []) := by
    intro z2
    induction z2 with
    | zero => intro l0 l1 l2 h; unfold wp_X0_commonDivisor_h2 at h; exact h.elim
    | succ z2 k2 =>
      have w25 : ∀ (l0 : Int32) (l1 : Int32) (l2 : Int32), wp_X0_commonDivisor_j25 (wp_X0_commonDivisor_h2 Q z2) Q l0 l1 l2 → ∀ (ls : Array Slot), lv_has ls 3 [(0, .int l0), (1, .int l1), (2, .int l2)] → W p l e (headSpec wsX0_commonDivisor (rmX0_commonDivisor)).room s m ([.int p0, .int p1] : List Value).toArray below meth c s.heap [] 0 0 (MQ below (vp_Si Q) ([.int p0, .int p1] : List Value).toArray s 0 0 (fun _ => False)) (F0 m 25 ls []) := by
        intro l0 l1 l2 h ls hl
        unfold wp_X0_commonDivisor_j25 at h
        obtain ⟨x1, ex1⟩ : ∃ y : Int32, y = l2 + (-1) := ⟨_, rfl⟩
        replace h := h x1 ex1
        refine lv_iinc (v := x1) (lv' := [(2, .int x1), (0, .int l0), (1, .int l1)]) hx hb dX0_commonDivisor_25 hl (k := 2) rfl (by rw [ex1]; rfl) (by decide) rfl (fun ls hl => ?_)
        refine lv_goto (tgt := 2) hx hb dX0_commonDivisor_28 (by decide) ?_
        exact k2 l0 l1 x1 h ls (lv_sub hl [1, 2, 0] rfl)
      intro l0 l1 l2 h ls hl
      unfold wp_X0_commonDivisor_h2 at h
      refine lv_iload_n hx hb dX0_commonDivisor_2 rfl (lv_at hl 2 rfl) ?_
      refine lv_iconst (v := 1) hx hb dX0_commonDivisor_3 (by decide) ?_
      refine lv_icmp_le (tgt := 31) hx hb dX0_commonDivisor_4 (by decide) (fun c2 => ?_) (fun c2 => ?_)
      · replace h := h.1 c2
        refine lv_iconst (v := 1) hx hb dX0_commonDivisor_31 (by decide) ?_
        exact W.iret (v := 1) hx hb hr (fun t ht hW => ⟨_, rfl, h, ht⟩) (fun _ h => by cases h) dX0_commonDivisor_32
      · replace h := h.2 c2
        refine lv_iload_n hx hb dX0_commonDivisor_7 rfl (lv_at hl 0 rfl) ?_
        refine lv_iload_n hx hb dX0_commonDivisor_8 rfl (lv_at hl 2 rfl) ?_
        refine vs_calli (va_runSN (As := [.int l0, .int l2]) (rest := []) ⟨hx, hb, hml, hown, hts⟩ (c_X6_leftOver l l0 l2 _ h) ⟨va_cnB 2 hts gX0_commonDivisor_X6_leftOver_n24 rfl rfl rfl (nw_48 hN) (hts (.initialized RX6) (by decide +kernel)) (by decide +kernel) ⟨Nat.le_of_ble_eq_true rfl, Nat.le_of_ble_eq_true rfl⟩, hts (.static yX6_leftOver) (by decide +kernel), trivial⟩ ⟨fun a U g mk q => ⟨q.1, nW_call q.2⟩, fun U hU hW => ⟨rfl, nW_warm hW hN⟩⟩ rfl rfl hl.1 rfl (lv_room (Nat.le_of_ble_eq_true rfl)) dX0_commonDivisor_9 ⟨Nat.le_of_ble_eq_true rfl, Nat.le_of_ble_eq_true rfl⟩) (fun r3 h => ?_)
        refine lv_if_ne (tgt := 25) hx hb dX0_commonDivisor_12 (by decide) (fun c4 => ?_) (fun c4 => ?_)
        · replace h := h.1 c4
          exact w25 l0 l1 l2 h ls (lv_sub hl [0, 1, 2] rfl)
        · replace h := h.2 c4
          refine lv_iload_n hx hb dX0_commonDivisor_15 rfl (lv_at hl 1 rfl) ?_
          refine lv_iload_n hx hb dX0_commonDivisor_16 rfl (lv_at hl 2 rfl) ?_
          refine vs_calli (va_runSN (As := [.int l1, .int l2]) (rest := []) ⟨hx, hb, hml, hown, hts⟩ (c_X6_leftOver l l1 l2 _ h) ⟨va_cnB 2 hts gX0_commonDivisor_X6_leftOver_n24 rfl rfl rfl (nw_48 hN) (hts (.initialized RX6) (by decide +kernel)) (by decide +kernel) ⟨Nat.le_of_ble_eq_true rfl, Nat.le_of_ble_eq_true rfl⟩, hts (.static yX6_leftOver) (by decide +kernel), trivial⟩ ⟨fun a U g mk q => ⟨q.1, nW_call q.2⟩, fun U hU hW => ⟨rfl, nW_warm hW hN⟩⟩ rfl rfl hl.1 rfl (lv_room (Nat.le_of_ble_eq_true rfl)) dX0_commonDivisor_17 ⟨Nat.le_of_ble_eq_true rfl, Nat.le_of_ble_eq_true rfl⟩) (fun r5 h => ?_)
          refine lv_if_ne (tgt := 25) hx hb dX0_commonDivisor_20 (by decide) (fun c6 => ?_) (fun c6 => ?_)
          · replace h := h.1 c6
            exact w25 l0 l1 l2 h ls (lv_sub hl [0, 1, 2] rfl)
          · replace h := h.2 c6
            refine lv_iload_n hx hb dX0_commonDivisor_23 rfl (lv_at hl 2 rfl) ?_
            exact W.iret (v := l2) hx hb hr (fun t ht hW => ⟨_, rfl, h, ht⟩) (fun _ h => by cases h) dX0_commonDivisor_24
  have hl := lv_entry ([.int p0, .int p1]) (n := 3) (Nat.le_of_ble_eq_true rfl)
  rw [lg_entry_eq]
  generalize (lg_sl ([.int p0, .int p1]) ++ List.replicate (3 - (lg_sl ([.int p0, .int p1])).length) Slot.unset).toArray = ls at hl ⊢
  have hl : lv_has ls 3 [(0, .int p0), (1, .int p1)] := hl
  refine lv_iload_n hx hb dX0_commonDivisor_0 rfl (lv_at hl 0 rfl) ?_
  refine lv_istore_n (lv' := [(2, .int p0), (0, .int p0), (1, .int p1)]) hx hb dX0_commonDivisor_1 rfl hl (by decide) rfl (fun ls hl => ?_)
  obtain ⟨k7, h⟩ := h
  exact w2 k7 p0 p1 p0 h ls (lv_sub hl [1, 2, 0] rfl)

def wp_X6_quotient_j12 (Q : Int32 → Prop) (s0 : Int32) : Prop := Q s0
def wp_X6_quotient (p0 : Int32) (p1 : Int32) (Q : Int32 → Prop) : Prop := (1 ≤ p1 → ((¬ (p1 : Int32) = 0) ∧ wp_X6_quotient_j12 Q (p0 / p1))) ∧ (¬ 1 ≤ p1 → (wp_X6_quotient_j12 Q 0))
abbrev rmX6_quotient : Room := { frames := 0, cells := 0, slots := 0, locals := 0 }
set_option maxHeartbeats 4000000 in
set_option maxRecDepth 100000 in
theorem c_X6_quotient (l : Launch) (p0 : Int32) (p1 : Int32) (Q : Int32 → Prop) (h : wp_X6_quotient p0 p1 Q) : Met l yX6_quotient wsX6_quotient (rmX6_quotient) (va_Pc [.int p0, .int p1] (fun U => nW U)) (vp_Si Q) 0 0 (fun _ => False) := by
  unfold wp_X6_quotient at h
  refine Met.ofW (cc := cX6_quotient) (maxL := 2) (ret := (some .int)) (by decide) rfl ?_
  intro p e s m args below meth c s₁ B hml hv
  obtain ⟨rfl, hN⟩ := hv
  have hx := B.exec
  have hb := B.bytes
  have hr := B.returns
  have hts := atoms_spec (ws := wsX6_quotient) B.pre
  have hown : s.vm.findClass RX6 = some m.cls := findClass_of_methodNamed B.named
  have hlocks := B.notSynchronized
  have w12 : ∀ (s0 : Int32), wp_X6_quotient_j12 Q s0 → ∀ (ls : Array Slot), lv_has ls 2 [] → W p l e (headSpec wsX6_quotient (rmX6_quotient)).room s m ([.int p0, .int p1] : List Value).toArray below meth c s.heap [] 0 0 (MQ below (vp_Si Q) ([.int p0, .int p1] : List Value).toArray s 0 0 (fun _ => False)) (F0 m 12 ls [.int s0]) := by
    intro s0 h ls hl
    unfold wp_X6_quotient_j12 at h
    exact W.iret (v := s0) hx hb hr (fun t ht hW => ⟨_, rfl, h, ht⟩) (fun _ h => by cases h) dX6_quotient_12
  have hl := lv_entry ([.int p0, .int p1]) (n := 2) (Nat.le_of_ble_eq_true rfl)
  rw [lg_entry_eq]
  generalize (lg_sl ([.int p0, .int p1]) ++ List.replicate (2 - (lg_sl ([.int p0, .int p1])).length) Slot.unset).toArray = ls at hl ⊢
  have hl : lv_has ls 2 [(0, .int p0), (1, .int p1)] := hl
  refine lv_iload_n hx hb dX6_quotient_0 rfl (lv_at hl 1 rfl) ?_
  refine lv_iconst (v := 1) hx hb dX6_quotient_1 (by decide) ?_
  refine lv_icmp_ge (tgt := 9) hx hb dX6_quotient_2 (by decide) (fun c1 => ?_) (fun c1 => ?_)
  · replace h := h.1 c1
    refine lv_iload_n hx hb dX6_quotient_9 rfl (lv_at hl 0 rfl) ?_
    refine lv_iload_n hx hb dX6_quotient_10 rfl (lv_at hl 1 rfl) ?_
    refine lv_idiv hx hb dX6_quotient_11 h.1 ?_
    replace h := h.2
    exact w12 (p0 / p1) h ls (lv_sub hl [] rfl)
  · replace h := h.2 c1
    refine lv_iconst (v := 0) hx hb dX6_quotient_5 (by decide) ?_
    refine lv_goto (tgt := 12) hx hb dX6_quotient_6 (by decide) ?_
    exact w12 0 h ls (lv_sub hl [] rfl)

def wp_X0_choose_h11 (Q : Int32 → Prop) : Nat → Int32 → Int32 → Int32 → Int32 → Prop
  | 0, _, _, _, _ => False
  | z11 + 1, l0, l1, l2, l3 => (l1 < l3 → (Q l2)) ∧ (¬ l1 < l3 → (wp_X6_quotient (l2 * ((l0 + 1) - l3)) l3 fun (r2 : Int32) => ∀ x3 : Int32, x3 = l3 + 1 → (wp_X0_choose_h11 Q z11) l0 l1 r2 x3))
def wp_X0_choose (p0 : Int32) (p1 : Int32) (Q : Int32 → Prop) : Prop := (p1 ≤ p0 → (∃ k5 : Nat, wp_X0_choose_h11 Q k5 p0 p1 1 1)) ∧ (¬ p1 ≤ p0 → (Q 0))
abbrev rmX0_choose : Room := { frames := 1, cells := 0, slots := 0, locals := 21 }
set_option maxHeartbeats 4000000 in
set_option maxRecDepth 100000 in
theorem c_X0_choose (l : Launch) (p0 : Int32) (p1 : Int32) (Q : Int32 → Prop) (h : wp_X0_choose p0 p1 Q) : Met l yX0_choose wsX0_choose (rmX0_choose) (va_Pc [.int p0, .int p1] (fun U => nW U)) (vp_Si Q) 0 0 (fun _ => False) := by
  unfold wp_X0_choose at h
  refine Met.ofW (cc := cX0_choose) (maxL := 4) (ret := (some .int)) (by decide) rfl ?_
  intro p e s m args below meth c s₁ B hml hv
  obtain ⟨rfl, hN⟩ := hv
  have hx := B.exec
  have hb := B.bytes
  have hr := B.returns
  have hts := atoms_spec (ws := wsX0_choose) B.pre
  have hown : s.vm.findClass RX0 = some m.cls := findClass_of_methodNamed B.named
  have hlocks := B.notSynchronized
  have w11 : ∀ (z11 : Nat) (l0 : Int32) (l1 : Int32) (l2 : Int32) (l3 : Int32), wp_X0_choose_h11 Q z11 l0 l1 l2 l3 → ∀ (ls : Array Slot), lv_has ls 4 [(0, .int l0), (1, .int l1), (2, .int l2), (3, .int l3)] → W p l e (headSpec wsX0_choose (rmX0_choose)).room s m ([.int p0, .int p1] : List Value).toArray below meth c s.heap [] 0 0 (MQ below (vp_Si Q) ([.int p0, .int p1] : List Value).toArray s 0 0 (fun _ => False)) (F0 m 11 ls []) := by
    intro z11
    induction z11 with
    | zero => intro l0 l1 l2 l3 h; unfold wp_X0_choose_h11 at h; exact h.elim
    | succ z11 k11 =>
      intro l0 l1 l2 l3 h ls hl
      unfold wp_X0_choose_h11 at h
      refine lv_iload_n hx hb dX0_choose_11 rfl (lv_at hl 3 rfl) ?_
      refine lv_iload_n hx hb dX0_choose_12 rfl (lv_at hl 1 rfl) ?_
      refine lv_icmp_gt (tgt := 34) hx hb dX0_choose_13 (by decide) (fun c1 => ?_) (fun c1 => ?_)
      · replace h := h.1 c1
        refine lv_iload_n hx hb dX0_choose_34 rfl (lv_at hl 2 rfl) ?_
        exact W.iret (v := l2) hx hb hr (fun t ht hW => ⟨_, rfl, h, ht⟩) (fun _ h => by cases h) dX0_choose_35
      · replace h := h.2 c1
        refine lv_iload_n hx hb dX0_choose_16 rfl (lv_at hl 2 rfl) ?_
        refine lv_iload_n hx hb dX0_choose_17 rfl (lv_at hl 0 rfl) ?_
        refine lv_iconst (v := 1) hx hb dX0_choose_18 (by decide) ?_
        refine lv_iadd hx hb dX0_choose_19 ?_
        refine lv_iload_n hx hb dX0_choose_20 rfl (lv_at hl 3 rfl) ?_
        refine lv_isub hx hb dX0_choose_21 ?_
        refine lv_imul hx hb dX0_choose_22 ?_
        refine lv_iload_n hx hb dX0_choose_23 rfl (lv_at hl 3 rfl) ?_
        refine vs_calli (va_runSN (As := [.int (l2 * ((l0 + 1) - l3)), .int l3]) (rest := []) ⟨hx, hb, hml, hown, hts⟩ (c_X6_quotient l (l2 * ((l0 + 1) - l3)) l3 _ h) ⟨va_cnB 2 hts gX0_choose_X6_quotient_n13 rfl rfl rfl (nw_49 hN) (hts (.initialized RX6) (by decide +kernel)) (by decide +kernel) ⟨Nat.le_of_ble_eq_true rfl, Nat.le_of_ble_eq_true rfl⟩, hts (.static yX6_quotient) (by decide +kernel), trivial⟩ ⟨fun a U g mk q => ⟨q.1, nW_call q.2⟩, fun U hU hW => ⟨rfl, nW_warm hW hN⟩⟩ rfl rfl hl.1 rfl (lv_room (Nat.le_of_ble_eq_true rfl)) dX0_choose_24 ⟨Nat.le_of_ble_eq_true rfl, Nat.le_of_ble_eq_true rfl⟩) (fun r2 h => ?_)
        refine lv_istore_n (lv' := [(2, .int r2), (0, .int l0), (1, .int l1), (3, .int l3)]) hx hb dX0_choose_27 rfl hl (by decide) rfl (fun ls hl => ?_)
        obtain ⟨x3, ex3⟩ : ∃ y : Int32, y = l3 + 1 := ⟨_, rfl⟩
        replace h := h x3 ex3
        refine lv_iinc (v := x3) (lv' := [(3, .int x3), (2, .int r2), (0, .int l0), (1, .int l1)]) hx hb dX0_choose_28 hl (k := 3) rfl (by rw [ex3]; rfl) (by decide) rfl (fun ls hl => ?_)
        refine lv_goto (tgt := 11) hx hb dX0_choose_31 (by decide) ?_
        exact k11 l0 l1 r2 x3 h ls (lv_sub hl [2, 3, 1, 0] rfl)
  have hl := lv_entry ([.int p0, .int p1]) (n := 4) (Nat.le_of_ble_eq_true rfl)
  rw [lg_entry_eq]
  generalize (lg_sl ([.int p0, .int p1]) ++ List.replicate (4 - (lg_sl ([.int p0, .int p1])).length) Slot.unset).toArray = ls at hl ⊢
  have hl : lv_has ls 4 [(0, .int p0), (1, .int p1)] := hl
  refine lv_iload_n hx hb dX0_choose_0 rfl (lv_at hl 1 rfl) ?_
  refine lv_iload_n hx hb dX0_choose_1 rfl (lv_at hl 0 rfl) ?_
  refine lv_icmp_le (tgt := 7) hx hb dX0_choose_2 (by decide) (fun c4 => ?_) (fun c4 => ?_)
  · replace h := h.1 c4
    refine lv_iconst (v := 1) hx hb dX0_choose_7 (by decide) ?_
    refine lv_istore_n (lv' := [(2, .int 1), (0, .int p0), (1, .int p1)]) hx hb dX0_choose_8 rfl hl (by decide) rfl (fun ls hl => ?_)
    refine lv_iconst (v := 1) hx hb dX0_choose_9 (by decide) ?_
    refine lv_istore_n (lv' := [(3, .int 1), (2, .int 1), (0, .int p0), (1, .int p1)]) hx hb dX0_choose_10 rfl hl (by decide) rfl (fun ls hl => ?_)
    obtain ⟨k5, h⟩ := h
    exact w11 k5 p0 p1 1 1 h ls (lv_sub hl [2, 3, 1, 0] rfl)
  · replace h := h.2 c4
    refine lv_iconst (v := 0) hx hb dX0_choose_5 (by decide) ?_
    exact W.iret (v := 0) hx hb hr (fun t ht hW => ⟨_, rfl, h, ht⟩) (fun _ h => by cases h) dX0_choose_6

def wp_X0_keptByTurns_j47 (L4 : Int32 → Int32 → Int32 → Int32 → Prop) (Q : Int32 → Prop) (l0 : Int32) (l1 : Int32) (l2 : Int32) (l3 : Int32) : Prop := ∀ x1 : Int32, x1 = l3 + 1 → L4 l0 l1 l2 x1
def wp_X0_keptByTurns_h4 (Q : Int32 → Prop) : Nat → Int32 → Int32 → Int32 → Int32 → Prop
  | 0, _, _, _, _ => False
  | z4 + 1, l0, l1, l2, l3 => (l0 ≤ l3 → (Q l2)) ∧ (¬ l0 ≤ l3 → (wp_X0_commonDivisor l0 l3 fun (r3 : Int32) => wp_X6_quotient l0 r3 fun (r4 : Int32) => wp_X6_leftOver l1 r4 fun (r5 : Int32) => (¬ r5 = 0 → (wp_X0_keptByTurns_j47 (wp_X0_keptByTurns_h4 Q z4) Q l0 l1 l2 l3)) ∧ (r5 = 0 → (wp_X6_quotient l1 r4 fun (r7 : Int32) => wp_X0_choose r3 r7 fun (r8 : Int32) => ∀ x9 : Int32, x9 = (l2 + r8) → wp_X0_keptByTurns_j47 (wp_X0_keptByTurns_h4 Q z4) Q l0 l1 x9 l3))))
def wp_X0_keptByTurns (p0 : Int32) (p1 : Int32) (Q : Int32 → Prop) : Prop := ∃ k10 : Nat, wp_X0_keptByTurns_h4 Q k10 p0 p1 0 0
abbrev rmX0_keptByTurns : Room := { frames := 2, cells := 0, slots := 0, locals := 44 }
set_option maxHeartbeats 4000000 in
set_option maxRecDepth 100000 in
theorem c_X0_keptByTurns (l : Launch) (p0 : Int32) (p1 : Int32) (Q : Int32 → Prop) (h : wp_X0_keptByTurns p0 p1 Q) : Met l yX0_keptByTurns wsX0_keptByTurns (rmX0_keptByTurns) (va_Pc [.int p0, .int p1] (fun U => nW U)) (vp_Si Q) 0 0 (fun _ => False) := by
  unfold wp_X0_keptByTurns at h
  refine Met.ofW (cc := cX0_keptByTurns) (maxL := 6) (ret := (some .int)) (by decide) rfl ?_
  intro p e s m args below meth c s₁ B hml hv
  obtain ⟨rfl, hN⟩ := hv
  have hx := B.exec
  have hb := B.bytes
  have hr := B.returns
  have hts := atoms_spec (ws := wsX0_keptByTurns) B.pre
  have hown : s.vm.findClass RX0 = some m.cls := findClass_of_methodNamed B.named
  have hlocks := B.notSynchronized
  have w4 : ∀ (z4 : Nat) (l0 : Int32) (l1 : Int32) (l2 : Int32) (l3 : Int32), wp_X0_keptByTurns_h4 Q z4 l0 l1 l2 l3 → ∀ (ls : Array Slot), lv_has ls 6 [(0, .int l0), (1, .int l1), (2, .int l2), (3, .int l3)] → W p l e (headSpec wsX0_keptByTurns (rmX0_keptByTurns)).room s m ([.int p0, .int p1] : List Value).toArray below meth c s.heap [] 0 0 (MQ below (vp_Si Q) ([.int p0, .int p1] : List Value).toArray s 0 0 (fun _ => False)) (F0 m 4 ls []) := by
    intro z4
    induction z4 with
    | zero => intro l0 l1 l2 l3 h; unfold wp_X0_keptByTurns_h4 at h; exact h.elim
    | succ z4 k4 =>
      have w47 : ∀ (l0 : Int32) (l1 : Int32) (l2 : Int32) (l3 : Int32), wp_X0_keptByTurns_j47 (wp_X0_keptByTurns_h4 Q z4) Q l0 l1 l2 l3 → ∀ (ls : Array Slot), lv_has ls 6 [(0, .int l0), (1, .int l1), (2, .int l2), (3, .int l3)] → W p l e (headSpec wsX0_keptByTurns (rmX0_keptByTurns)).room s m ([.int p0, .int p1] : List Value).toArray below meth c s.heap [] 0 0 (MQ below (vp_Si Q) ([.int p0, .int p1] : List Value).toArray s 0 0 (fun _ => False)) (F0 m 47 ls []) := by
        intro l0 l1 l2 l3 h ls hl
        unfold wp_X0_keptByTurns_j47 at h
        obtain ⟨x1, ex1⟩ : ∃ y : Int32, y = l3 + 1 := ⟨_, rfl⟩
        replace h := h x1 ex1
        refine lv_iinc (v := x1) (lv' := [(3, .int x1), (0, .int l0), (1, .int l1), (2, .int l2)]) hx hb dX0_keptByTurns_47 hl (k := 3) rfl (by rw [ex1]; rfl) (by decide) rfl (fun ls hl => ?_)
        refine lv_goto (tgt := 4) hx hb dX0_keptByTurns_50 (by decide) ?_
        exact k4 l0 l1 l2 x1 h ls (lv_sub hl [1, 2, 3, 0] rfl)
      intro l0 l1 l2 l3 h ls hl
      unfold wp_X0_keptByTurns_h4 at h
      refine lv_iload_n hx hb dX0_keptByTurns_4 rfl (lv_at hl 3 rfl) ?_
      refine lv_iload_n hx hb dX0_keptByTurns_5 rfl (lv_at hl 0 rfl) ?_
      refine lv_icmp_ge (tgt := 53) hx hb dX0_keptByTurns_6 (by decide) (fun c2 => ?_) (fun c2 => ?_)
      · replace h := h.1 c2
        refine lv_iload_n hx hb dX0_keptByTurns_53 rfl (lv_at hl 2 rfl) ?_
        exact W.iret (v := l2) hx hb hr (fun t ht hW => ⟨_, rfl, h, ht⟩) (fun _ h => by cases h) dX0_keptByTurns_54
      · replace h := h.2 c2
        refine lv_iload_n hx hb dX0_keptByTurns_9 rfl (lv_at hl 0 rfl) ?_
        refine lv_iload_n hx hb dX0_keptByTurns_10 rfl (lv_at hl 3 rfl) ?_
        refine vs_calli (va_runS (As := [.int l0, .int l3]) (rest := []) ⟨hx, hb, hml, hown, hts⟩ (c_X0_commonDivisor l l0 l3 _ h) (va_cwS 2 hts gX0_keptByTurns_X0_commonDivisor rfl rfl rfl (by decide +kernel) ⟨Nat.le_of_ble_eq_true rfl, Nat.le_of_ble_eq_true rfl⟩) ⟨fun a U g mk q => ⟨q.1, nW_call q.2⟩, fun U hU hW => ⟨rfl, nW_warm hW hN⟩⟩ rfl rfl hl.1 rfl (lv_room (Nat.le_of_ble_eq_true rfl)) dX0_keptByTurns_11 ⟨Nat.le_of_ble_eq_true rfl, Nat.le_of_ble_eq_true rfl⟩) (fun r3 h => ?_)
        refine lv_istore (lv' := [(4, .int r3), (0, .int l0), (1, .int l1), (2, .int l2), (3, .int l3)]) hx hb dX0_keptByTurns_14 hl (by decide) rfl (fun ls hl => ?_)
        refine lv_iload_n hx hb dX0_keptByTurns_16 rfl (lv_at hl 1 rfl) ?_
        refine lv_iload hx hb dX0_keptByTurns_17 (lv_at hl 0 rfl) ?_
        refine vs_calli (va_runSN (As := [.int l0, .int r3]) (rest := []) ⟨hx, hb, hml, hown, hts⟩ (c_X6_quotient l l0 r3 _ h) ⟨va_cnB 2 hts gX0_keptByTurns_X6_quotient_n13 rfl rfl rfl (nw_49 hN) (hts (.initialized RX6) (by decide +kernel)) (by decide +kernel) ⟨Nat.le_of_ble_eq_true rfl, Nat.le_of_ble_eq_true rfl⟩, hts (.static yX6_quotient) (by decide +kernel), trivial⟩ ⟨fun a U g mk q => ⟨q.1, nW_call q.2⟩, fun U hU hW => ⟨rfl, nW_warm hW hN⟩⟩ rfl rfl hl.1 rfl (lv_room (Nat.le_of_ble_eq_true rfl)) dX0_keptByTurns_19 ⟨Nat.le_of_ble_eq_true rfl, Nat.le_of_ble_eq_true rfl⟩) (fun r4 h => ?_)
        refine lv_istore (lv' := [(5, .int r4), (4, .int r3), (0, .int l0), (1, .int l1), (2, .int l2), (3, .int l3)]) hx hb dX0_keptByTurns_22 hl (by decide) rfl (fun ls hl => ?_)
        refine lv_iload_n hx hb dX0_keptByTurns_24 rfl (lv_at hl 3 rfl) ?_
        refine lv_iload hx hb dX0_keptByTurns_25 (lv_at hl 0 rfl) ?_
        refine vs_calli (va_runSN (As := [.int l1, .int r4]) (rest := []) ⟨hx, hb, hml, hown, hts⟩ (c_X6_leftOver l l1 r4 _ h) ⟨va_cnB 2 hts gX0_keptByTurns_X6_leftOver_n24 rfl rfl rfl (nw_48 hN) (hts (.initialized RX6) (by decide +kernel)) (by decide +kernel) ⟨Nat.le_of_ble_eq_true rfl, Nat.le_of_ble_eq_true rfl⟩, hts (.static yX6_leftOver) (by decide +kernel), trivial⟩ ⟨fun a U g mk q => ⟨q.1, nW_call q.2⟩, fun U hU hW => ⟨rfl, nW_warm hW hN⟩⟩ rfl rfl hl.1 rfl (lv_room (Nat.le_of_ble_eq_true rfl)) dX0_keptByTurns_27 ⟨Nat.le_of_ble_eq_true rfl, Nat.le_of_ble_eq_true rfl⟩) (fun r5 h => ?_)
        refine lv_if_ne (tgt := 47) hx hb dX0_keptByTurns_30 (by decide) (fun c6 => ?_) (fun c6 => ?_)
        · replace h := h.1 c6
          exact w47 l0 l1 l2 l3 h ls (lv_sub hl [2, 3, 4, 5] rfl)
        · replace h := h.2 c6
          refine lv_iload_n hx hb dX0_keptByTurns_33 rfl (lv_at hl 4 rfl) ?_
          refine lv_iload hx hb dX0_keptByTurns_34 (lv_at hl 1 rfl) ?_
          refine lv_iload_n hx hb dX0_keptByTurns_36 rfl (lv_at hl 3 rfl) ?_
          refine lv_iload hx hb dX0_keptByTurns_37 (lv_at hl 0 rfl) ?_
          refine vs_calli (va_runSN (As := [.int l1, .int r4]) (rest := [.int r3, .int l2]) ⟨hx, hb, hml, hown, hts⟩ (c_X6_quotient l l1 r4 _ h) ⟨va_cnB 2 hts gX0_keptByTurns_X6_quotient_n13 rfl rfl rfl (nw_49 hN) (hts (.initialized RX6) (by decide +kernel)) (by decide +kernel) ⟨Nat.le_of_ble_eq_true rfl, Nat.le_of_ble_eq_true rfl⟩, hts (.static yX6_quotient) (by decide +kernel), trivial⟩ ⟨fun a U g mk q => ⟨q.1, nW_call q.2⟩, fun U hU hW => ⟨rfl, nW_warm hW hN⟩⟩ rfl rfl hl.1 rfl (lv_room (Nat.le_of_ble_eq_true rfl)) dX0_keptByTurns_39 ⟨Nat.le_of_ble_eq_true rfl, Nat.le_of_ble_eq_true rfl⟩) (fun r7 h => ?_)
          refine vs_calli (va_runS (As := [.int r3, .int r7]) (rest := [.int l2]) ⟨hx, hb, hml, hown, hts⟩ (c_X0_choose l r3 r7 _ h) (va_cwS 2 hts gX0_keptByTurns_X0_choose rfl rfl rfl (by decide +kernel) ⟨Nat.le_of_ble_eq_true rfl, Nat.le_of_ble_eq_true rfl⟩) ⟨fun a U g mk q => ⟨q.1, nW_call q.2⟩, fun U hU hW => ⟨rfl, nW_warm hW hN⟩⟩ rfl rfl hl.1 rfl (lv_room (Nat.le_of_ble_eq_true rfl)) dX0_keptByTurns_42 ⟨Nat.le_of_ble_eq_true rfl, Nat.le_of_ble_eq_true rfl⟩) (fun r8 h => ?_)
          refine lv_iadd hx hb dX0_keptByTurns_45 ?_
          refine lv_topi (fun x9 ex9 => ?_)
          replace h := h x9 ex9
          refine lv_istore_n (lv' := [(2, .int x9), (5, .int r4), (4, .int r3), (0, .int l0), (1, .int l1), (3, .int l3)]) hx hb dX0_keptByTurns_46 rfl hl (by decide) rfl (fun ls hl => ?_)
          exact w47 l0 l1 x9 l3 h ls (lv_sub hl [3, 4, 0, 5] rfl)
  have hl := lv_entry ([.int p0, .int p1]) (n := 6) (Nat.le_of_ble_eq_true rfl)
  rw [lg_entry_eq]
  generalize (lg_sl ([.int p0, .int p1]) ++ List.replicate (6 - (lg_sl ([.int p0, .int p1])).length) Slot.unset).toArray = ls at hl ⊢
  have hl : lv_has ls 6 [(0, .int p0), (1, .int p1)] := hl
  refine lv_iconst (v := 0) hx hb dX0_keptByTurns_0 (by decide) ?_
  refine lv_istore_n (lv' := [(2, .int 0), (0, .int p0), (1, .int p1)]) hx hb dX0_keptByTurns_1 rfl hl (by decide) rfl (fun ls hl => ?_)
  refine lv_iconst (v := 0) hx hb dX0_keptByTurns_2 (by decide) ?_
  refine lv_istore_n (lv' := [(3, .int 0), (2, .int 0), (0, .int p0), (1, .int p1)]) hx hb dX0_keptByTurns_3 rfl hl (by decide) rfl (fun ls hl => ?_)
  obtain ⟨k10, h⟩ := h
  exact w4 k10 p0 p1 0 0 h ls (lv_sub hl [2, 3, 1, 0] rfl)

def wp_X0_turned (p0 : Int32) (p1 : Int32) (Q : Int32 → Prop) : Prop := wp_X0_keptByTurns p0 p1 fun (r1 : Int32) => wp_X6_quotient r1 p0 fun (r2 : Int32) => Q r2
abbrev rmX0_turned : Room := { frames := 3, cells := 0, slots := 0, locals := 69 }
set_option maxHeartbeats 4000000 in
set_option maxRecDepth 100000 in
theorem c_X0_turned (l : Launch) (p0 : Int32) (p1 : Int32) (Q : Int32 → Prop) (h : wp_X0_turned p0 p1 Q) : Met l yX0_turned wsX0_turned (rmX0_turned) (va_Pc [.int p0, .int p1] (fun U => nW U)) (vp_Si Q) 0 0 (fun _ => False) := by
  unfold wp_X0_turned at h
  refine Met.ofW (cc := cX0_turned) (maxL := 2) (ret := (some .int)) (by decide) rfl ?_
  intro p e s m args below meth c s₁ B hml hv
  obtain ⟨rfl, hN⟩ := hv
  have hx := B.exec
  have hb := B.bytes
  have hr := B.returns
  have hts := atoms_spec (ws := wsX0_turned) B.pre
  have hown : s.vm.findClass RX0 = some m.cls := findClass_of_methodNamed B.named
  have hlocks := B.notSynchronized
  have hl := lv_entry ([.int p0, .int p1]) (n := 2) (Nat.le_of_ble_eq_true rfl)
  rw [lg_entry_eq]
  generalize (lg_sl ([.int p0, .int p1]) ++ List.replicate (2 - (lg_sl ([.int p0, .int p1])).length) Slot.unset).toArray = ls at hl ⊢
  have hl : lv_has ls 2 [(0, .int p0), (1, .int p1)] := hl
  refine lv_iload_n hx hb dX0_turned_0 rfl (lv_at hl 0 rfl) ?_
  refine lv_iload_n hx hb dX0_turned_1 rfl (lv_at hl 1 rfl) ?_
  refine vs_calli (va_runS (As := [.int p0, .int p1]) (rest := []) ⟨hx, hb, hml, hown, hts⟩ (c_X0_keptByTurns l p0 p1 _ h) (va_cwS 2 hts gX0_turned_X0_keptByTurns rfl rfl rfl (by decide +kernel) ⟨Nat.le_of_ble_eq_true rfl, Nat.le_of_ble_eq_true rfl⟩) ⟨fun a U g mk q => ⟨q.1, nW_call q.2⟩, fun U hU hW => ⟨rfl, nW_warm hW hN⟩⟩ rfl rfl hl.1 rfl (lv_room (Nat.le_of_ble_eq_true rfl)) dX0_turned_2 ⟨Nat.le_of_ble_eq_true rfl, Nat.le_of_ble_eq_true rfl⟩) (fun r1 h => ?_)
  refine lv_iload_n hx hb dX0_turned_5 rfl (lv_at hl 0 rfl) ?_
  refine vs_calli (va_runSN (As := [.int r1, .int p0]) (rest := []) ⟨hx, hb, hml, hown, hts⟩ (c_X6_quotient l r1 p0 _ h) ⟨va_cnB 2 hts gX0_turned_X6_quotient_n13 rfl rfl rfl (nw_49 hN) (hts (.initialized RX6) (by decide +kernel)) (by decide +kernel) ⟨Nat.le_of_ble_eq_true rfl, Nat.le_of_ble_eq_true rfl⟩, hts (.static yX6_quotient) (by decide +kernel), trivial⟩ ⟨fun a U g mk q => ⟨q.1, nW_call q.2⟩, fun U hU hW => ⟨rfl, nW_warm hW hN⟩⟩ rfl rfl hl.1 rfl (lv_room (Nat.le_of_ble_eq_true rfl)) dX0_turned_6 ⟨Nat.le_of_ble_eq_true rfl, Nat.le_of_ble_eq_true rfl⟩) (fun r2 h => ?_)
  exact W.iret (v := r2) hx hb hr (fun t ht hW => ⟨_, rfl, h, ht⟩) (fun _ h => by cases h) dX0_turned_9

def wp_X0_stillBeats_j24 (L4 : Int32 → Int32 → Int32 → Int32 → Prop) (Q : Int32 → Prop) (l0 : Int32) (l1 : Int32) (l2 : Int32) (l3 : Int32) : Prop := ∀ x1 : Int32, x1 = l3 + 1 → L4 l0 l1 l2 x1
def wp_X0_stillBeats_h4 (Q : Int32 → Prop) : Nat → Int32 → Int32 → Int32 → Int32 → Prop
  | 0, _, _, _, _ => False
  | z4 + 1, l0, l1, l2, l3 => (l0 ≤ l3 → (Q l2)) ∧ (¬ l0 ≤ l3 → (wp_X6_leftOver ((2 * l3) - l1) l0 fun (r3 : Int32) => (¬ r3 = 0 → (wp_X0_stillBeats_j24 (wp_X0_stillBeats_h4 Q z4) Q l0 l1 l2 l3)) ∧ (r3 = 0 → (∀ x5 : Int32, x5 = l2 + 1 → wp_X0_stillBeats_j24 (wp_X0_stillBeats_h4 Q z4) Q l0 l1 x5 l3))))
def wp_X0_stillBeats (p0 : Int32) (p1 : Int32) (Q : Int32 → Prop) : Prop := ∃ k6 : Nat, wp_X0_stillBeats_h4 Q k6 p0 p1 0 0
abbrev rmX0_stillBeats : Room := { frames := 1, cells := 0, slots := 0, locals := 22 }
set_option maxHeartbeats 4000000 in
set_option maxRecDepth 100000 in
theorem c_X0_stillBeats (l : Launch) (p0 : Int32) (p1 : Int32) (Q : Int32 → Prop) (h : wp_X0_stillBeats p0 p1 Q) : Met l yX0_stillBeats wsX0_stillBeats (rmX0_stillBeats) (va_Pc [.int p0, .int p1] (fun U => nW U)) (vp_Si Q) 0 0 (fun _ => False) := by
  unfold wp_X0_stillBeats at h
  refine Met.ofW (cc := cX0_stillBeats) (maxL := 4) (ret := (some .int)) (by decide) rfl ?_
  intro p e s m args below meth c s₁ B hml hv
  obtain ⟨rfl, hN⟩ := hv
  have hx := B.exec
  have hb := B.bytes
  have hr := B.returns
  have hts := atoms_spec (ws := wsX0_stillBeats) B.pre
  have hown : s.vm.findClass RX0 = some m.cls := findClass_of_methodNamed B.named
  have hlocks := B.notSynchronized
  have w4 : ∀ (z4 : Nat) (l0 : Int32) (l1 : Int32) (l2 : Int32) (l3 : Int32), wp_X0_stillBeats_h4 Q z4 l0 l1 l2 l3 → ∀ (ls : Array Slot), lv_has ls 4 [(0, .int l0), (1, .int l1), (2, .int l2), (3, .int l3)] → W p l e (headSpec wsX0_stillBeats (rmX0_stillBeats)).room s m ([.int p0, .int p1] : List Value).toArray below meth c s.heap [] 0 0 (MQ below (vp_Si Q) ([.int p0, .int p1] : List Value).toArray s 0 0 (fun _ => False)) (F0 m 4 ls []) := by
    intro z4
    induction z4 with
    | zero => intro l0 l1 l2 l3 h; unfold wp_X0_stillBeats_h4 at h; exact h.elim
    | succ z4 k4 =>
      have w24 : ∀ (l0 : Int32) (l1 : Int32) (l2 : Int32) (l3 : Int32), wp_X0_stillBeats_j24 (wp_X0_stillBeats_h4 Q z4) Q l0 l1 l2 l3 → ∀ (ls : Array Slot), lv_has ls 4 [(0, .int l0), (1, .int l1), (2, .int l2), (3, .int l3)] → W p l e (headSpec wsX0_stillBeats (rmX0_stillBeats)).room s m ([.int p0, .int p1] : List Value).toArray below meth c s.heap [] 0 0 (MQ below (vp_Si Q) ([.int p0, .int p1] : List Value).toArray s 0 0 (fun _ => False)) (F0 m 24 ls []) := by
        intro l0 l1 l2 l3 h ls hl
        unfold wp_X0_stillBeats_j24 at h
        obtain ⟨x1, ex1⟩ : ∃ y : Int32, y = l3 + 1 := ⟨_, rfl⟩
        replace h := h x1 ex1
        refine lv_iinc (v := x1) (lv' := [(3, .int x1), (0, .int l0), (1, .int l1), (2, .int l2)]) hx hb dX0_stillBeats_24 hl (k := 3) rfl (by rw [ex1]; rfl) (by decide) rfl (fun ls hl => ?_)
        refine lv_goto (tgt := 4) hx hb dX0_stillBeats_27 (by decide) ?_
        exact k4 l0 l1 l2 x1 h ls (lv_sub hl [1, 2, 3, 0] rfl)
      intro l0 l1 l2 l3 h ls hl
      unfold wp_X0_stillBeats_h4 at h
      refine lv_iload_n hx hb dX0_stillBeats_4 rfl (lv_at hl 3 rfl) ?_
      refine lv_iload_n hx hb dX0_stillBeats_5 rfl (lv_at hl 0 rfl) ?_
      refine lv_icmp_ge (tgt := 30) hx hb dX0_stillBeats_6 (by decide) (fun c2 => ?_) (fun c2 => ?_)
      · replace h := h.1 c2
        refine lv_iload_n hx hb dX0_stillBeats_30 rfl (lv_at hl 2 rfl) ?_
        exact W.iret (v := l2) hx hb hr (fun t ht hW => ⟨_, rfl, h, ht⟩) (fun _ h => by cases h) dX0_stillBeats_31
      · replace h := h.2 c2
        refine lv_iconst (v := 2) hx hb dX0_stillBeats_9 (by decide) ?_
        refine lv_iload_n hx hb dX0_stillBeats_10 rfl (lv_at hl 3 rfl) ?_
        refine lv_imul hx hb dX0_stillBeats_11 ?_
        refine lv_iload_n hx hb dX0_stillBeats_12 rfl (lv_at hl 1 rfl) ?_
        refine lv_isub hx hb dX0_stillBeats_13 ?_
        refine lv_iload_n hx hb dX0_stillBeats_14 rfl (lv_at hl 0 rfl) ?_
        refine vs_calli (va_runSN (As := [.int ((2 * l3) - l1), .int l0]) (rest := []) ⟨hx, hb, hml, hown, hts⟩ (c_X6_leftOver l ((2 * l3) - l1) l0 _ h) ⟨va_cnB 2 hts gX0_stillBeats_X6_leftOver_n24 rfl rfl rfl (nw_48 hN) (hts (.initialized RX6) (by decide +kernel)) (by decide +kernel) ⟨Nat.le_of_ble_eq_true rfl, Nat.le_of_ble_eq_true rfl⟩, hts (.static yX6_leftOver) (by decide +kernel), trivial⟩ ⟨fun a U g mk q => ⟨q.1, nW_call q.2⟩, fun U hU hW => ⟨rfl, nW_warm hW hN⟩⟩ rfl rfl hl.1 rfl (lv_room (Nat.le_of_ble_eq_true rfl)) dX0_stillBeats_15 ⟨Nat.le_of_ble_eq_true rfl, Nat.le_of_ble_eq_true rfl⟩) (fun r3 h => ?_)
        refine lv_if_ne (tgt := 24) hx hb dX0_stillBeats_18 (by decide) (fun c4 => ?_) (fun c4 => ?_)
        · replace h := h.1 c4
          exact w24 l0 l1 l2 l3 h ls (lv_sub hl [0, 1, 2, 3] rfl)
        · replace h := h.2 c4
          obtain ⟨x5, ex5⟩ : ∃ y : Int32, y = l2 + 1 := ⟨_, rfl⟩
          replace h := h x5 ex5
          refine lv_iinc (v := x5) (lv' := [(2, .int x5), (0, .int l0), (1, .int l1), (3, .int l3)]) hx hb dX0_stillBeats_21 hl (k := 2) rfl (by rw [ex5]; rfl) (by decide) rfl (fun ls hl => ?_)
          exact w24 l0 l1 x5 l3 h ls (lv_sub hl [1, 2, 0, 3] rfl)
  have hl := lv_entry ([.int p0, .int p1]) (n := 4) (Nat.le_of_ble_eq_true rfl)
  rw [lg_entry_eq]
  generalize (lg_sl ([.int p0, .int p1]) ++ List.replicate (4 - (lg_sl ([.int p0, .int p1])).length) Slot.unset).toArray = ls at hl ⊢
  have hl : lv_has ls 4 [(0, .int p0), (1, .int p1)] := hl
  refine lv_iconst (v := 0) hx hb dX0_stillBeats_0 (by decide) ?_
  refine lv_istore_n (lv' := [(2, .int 0), (0, .int p0), (1, .int p1)]) hx hb dX0_stillBeats_1 rfl hl (by decide) rfl (fun ls hl => ?_)
  refine lv_iconst (v := 0) hx hb dX0_stillBeats_2 (by decide) ?_
  refine lv_istore_n (lv' := [(3, .int 0), (2, .int 0), (0, .int p0), (1, .int p1)]) hx hb dX0_stillBeats_3 rfl hl (by decide) rfl (fun ls hl => ?_)
  obtain ⟨k6, h⟩ := h
  exact w4 k6 p0 p1 0 0 h ls (lv_sub hl [2, 3, 1, 0] rfl)

def wp_X0_keptByMirrors_j79 (L4 : Int32 → Int32 → Int32 → Int32 → Prop) (Q : Int32 → Prop) (l0 : Int32) (l1 : Int32) (l2 : Int32) (l3 : Int32) : Prop := ∀ x1 : Int32, x1 = l3 + 1 → L4 l0 l1 l2 x1
def wp_X0_keptByMirrors_j73 (L4 : Int32 → Int32 → Int32 → Int32 → Prop) (L27 : Int32 → Int32 → Int32 → Int32 → Int32 → Int32 → Int32 → Prop) (Q : Int32 → Prop) (l0 : Int32) (l1 : Int32) (l2 : Int32) (l3 : Int32) (l4 : Int32) (l5 : Int32) (l6 : Int32) : Prop := ∀ x2 : Int32, x2 = l6 + 1 → L27 l0 l1 l2 l3 l4 l5 x2
def wp_X0_keptByMirrors_h27 (L4 : Int32 → Int32 → Int32 → Int32 → Prop) (Q : Int32 → Prop) : Nat → Int32 → Int32 → Int32 → Int32 → Int32 → Int32 → Int32 → Prop
  | 0, _, _, _, _, _, _, _ => False
  | z27 + 1, l0, l1, l2, l3, l4, l5, l6 => (l4 < l6 → (wp_X0_keptByMirrors_j79 L4 Q l0 l1 l2 l3)) ∧ (¬ l4 < l6 → ((l1 < l6 → (wp_X0_keptByMirrors_j79 L4 Q l0 l1 l2 l3)) ∧ (¬ l1 < l6 → (wp_X6_leftOver (l1 - l6) 2 fun (r5 : Int32) => (¬ r5 = 0 → (wp_X0_keptByMirrors_j73 L4 (wp_X0_keptByMirrors_h27 L4 Q z27) Q l0 l1 l2 l3 l4 l5 l6)) ∧ (r5 = 0 → (wp_X0_choose l4 l6 fun (r7 : Int32) => (¬ (2 : Int32) = 0) ∧ wp_X0_choose l5 ((l1 - l6) / 2) fun (r8 : Int32) => ∀ x9 : Int32, x9 = (l2 + (r7 * r8)) → wp_X0_keptByMirrors_j73 L4 (wp_X0_keptByMirrors_h27 L4 Q z27) Q l0 l1 x9 l3 l4 l5 l6))))))
def wp_X0_keptByMirrors_h4 (Q : Int32 → Prop) : Nat → Int32 → Int32 → Int32 → Int32 → Prop
  | 0, _, _, _, _ => False
  | z4 + 1, l0, l1, l2, l3 => (l0 ≤ l3 → (Q l2)) ∧ (¬ l0 ≤ l3 → (wp_X0_stillBeats l0 l3 fun (r11 : Int32) => (¬ (2 : Int32) = 0) ∧ ∀ x12 : Int32, x12 = ((l0 - r11) / 2) → ∃ k13 : Nat, wp_X0_keptByMirrors_h27 (wp_X0_keptByMirrors_h4 Q z4) Q k13 l0 l1 l2 l3 r11 x12 0))
def wp_X0_keptByMirrors (p0 : Int32) (p1 : Int32) (Q : Int32 → Prop) : Prop := ∃ k14 : Nat, wp_X0_keptByMirrors_h4 Q k14 p0 p1 0 0
abbrev rmX0_keptByMirrors : Room := { frames := 2, cells := 0, slots := 0, locals := 45 }
set_option maxHeartbeats 4000000 in
set_option maxRecDepth 100000 in
theorem c_X0_keptByMirrors (l : Launch) (p0 : Int32) (p1 : Int32) (Q : Int32 → Prop) (h : wp_X0_keptByMirrors p0 p1 Q) : Met l yX0_keptByMirrors wsX0_keptByMirrors (rmX0_keptByMirrors) (va_Pc [.int p0, .int p1] (fun U => nW U)) (vp_Si Q) 0 0 (fun _ => False) := by
  unfold wp_X0_keptByMirrors at h
  refine Met.ofW (cc := cX0_keptByMirrors) (maxL := 7) (ret := (some .int)) (by decide) rfl ?_
  intro p e s m args below meth c s₁ B hml hv
  obtain ⟨rfl, hN⟩ := hv
  have hx := B.exec
  have hb := B.bytes
  have hr := B.returns
  have hts := atoms_spec (ws := wsX0_keptByMirrors) B.pre
  have hown : s.vm.findClass RX0 = some m.cls := findClass_of_methodNamed B.named
  have hlocks := B.notSynchronized
  have w4 : ∀ (z4 : Nat) (l0 : Int32) (l1 : Int32) (l2 : Int32) (l3 : Int32), wp_X0_keptByMirrors_h4 Q z4 l0 l1 l2 l3 → ∀ (ls : Array Slot), lv_has ls 7 [(0, .int l0), (1, .int l1), (2, .int l2), (3, .int l3)] → W p l e (headSpec wsX0_keptByMirrors (rmX0_keptByMirrors)).room s m ([.int p0, .int p1] : List Value).toArray below meth c s.heap [] 0 0 (MQ below (vp_Si Q) ([.int p0, .int p1] : List Value).toArray s 0 0 (fun _ => False)) (F0 m 4 ls []) := by
    intro z4
    induction z4 with
    | zero => intro l0 l1 l2 l3 h; unfold wp_X0_keptByMirrors_h4 at h; exact h.elim
    | succ z4 k4 =>
      have w79 : ∀ (l0 : Int32) (l1 : Int32) (l2 : Int32) (l3 : Int32), wp_X0_keptByMirrors_j79 (wp_X0_keptByMirrors_h4 Q z4) Q l0 l1 l2 l3 → ∀ (ls : Array Slot), lv_has ls 7 [(0, .int l0), (1, .int l1), (2, .int l2), (3, .int l3)] → W p l e (headSpec wsX0_keptByMirrors (rmX0_keptByMirrors)).room s m ([.int p0, .int p1] : List Value).toArray below meth c s.heap [] 0 0 (MQ below (vp_Si Q) ([.int p0, .int p1] : List Value).toArray s 0 0 (fun _ => False)) (F0 m 79 ls []) := by
        intro l0 l1 l2 l3 h ls hl
        unfold wp_X0_keptByMirrors_j79 at h
        obtain ⟨x1, ex1⟩ : ∃ y : Int32, y = l3 + 1 := ⟨_, rfl⟩
        replace h := h x1 ex1
        refine lv_iinc (v := x1) (lv' := [(3, .int x1), (0, .int l0), (1, .int l1), (2, .int l2)]) hx hb dX0_keptByMirrors_79 hl (k := 3) rfl (by rw [ex1]; rfl) (by decide) rfl (fun ls hl => ?_)
        refine lv_goto (tgt := 4) hx hb dX0_keptByMirrors_82 (by decide) ?_
        exact k4 l0 l1 l2 x1 h ls (lv_sub hl [1, 2, 3, 0] rfl)
      have w27 : ∀ (z27 : Nat) (l0 : Int32) (l1 : Int32) (l2 : Int32) (l3 : Int32) (l4 : Int32) (l5 : Int32) (l6 : Int32), wp_X0_keptByMirrors_h27 (wp_X0_keptByMirrors_h4 Q z4) Q z27 l0 l1 l2 l3 l4 l5 l6 → ∀ (ls : Array Slot), lv_has ls 7 [(0, .int l0), (1, .int l1), (2, .int l2), (3, .int l3), (4, .int l4), (5, .int l5), (6, .int l6)] → W p l e (headSpec wsX0_keptByMirrors (rmX0_keptByMirrors)).room s m ([.int p0, .int p1] : List Value).toArray below meth c s.heap [] 0 0 (MQ below (vp_Si Q) ([.int p0, .int p1] : List Value).toArray s 0 0 (fun _ => False)) (F0 m 27 ls []) := by
        intro z27
        induction z27 with
        | zero => intro l0 l1 l2 l3 l4 l5 l6 h; unfold wp_X0_keptByMirrors_h27 at h; exact h.elim
        | succ z27 k27 =>
          have w73 : ∀ (l0 : Int32) (l1 : Int32) (l2 : Int32) (l3 : Int32) (l4 : Int32) (l5 : Int32) (l6 : Int32), wp_X0_keptByMirrors_j73 (wp_X0_keptByMirrors_h4 Q z4) (wp_X0_keptByMirrors_h27 (wp_X0_keptByMirrors_h4 Q z4) Q z27) Q l0 l1 l2 l3 l4 l5 l6 → ∀ (ls : Array Slot), lv_has ls 7 [(0, .int l0), (1, .int l1), (2, .int l2), (3, .int l3), (4, .int l4), (5, .int l5), (6, .int l6)] → W p l e (headSpec wsX0_keptByMirrors (rmX0_keptByMirrors)).room s m ([.int p0, .int p1] : List Value).toArray below meth c s.heap [] 0 0 (MQ below (vp_Si Q) ([.int p0, .int p1] : List Value).toArray s 0 0 (fun _ => False)) (F0 m 73 ls []) := by
            intro l0 l1 l2 l3 l4 l5 l6 h ls hl
            unfold wp_X0_keptByMirrors_j73 at h
            obtain ⟨x2, ex2⟩ : ∃ y : Int32, y = l6 + 1 := ⟨_, rfl⟩
            replace h := h x2 ex2
            refine lv_iinc (v := x2) (lv' := [(6, .int x2), (0, .int l0), (1, .int l1), (2, .int l2), (3, .int l3), (4, .int l4), (5, .int l5)]) hx hb dX0_keptByMirrors_73 hl (k := 6) rfl (by rw [ex2]; rfl) (by decide) rfl (fun ls hl => ?_)
            refine lv_goto (tgt := 27) hx hb dX0_keptByMirrors_76 (by decide) ?_
            exact k27 l0 l1 l2 l3 l4 l5 x2 h ls (lv_sub hl [1, 2, 3, 4, 5, 6, 0] rfl)
          intro l0 l1 l2 l3 l4 l5 l6 h ls hl
          unfold wp_X0_keptByMirrors_h27 at h
          refine lv_iload hx hb dX0_keptByMirrors_27 (lv_at hl 6 rfl) ?_
          refine lv_iload hx hb dX0_keptByMirrors_29 (lv_at hl 4 rfl) ?_
          refine lv_icmp_gt (tgt := 79) hx hb dX0_keptByMirrors_31 (by decide) (fun c3 => ?_) (fun c3 => ?_)
          · replace h := h.1 c3
            exact w79 l0 l1 l2 l3 h ls (lv_sub hl [0, 1, 2, 3] rfl)
          · replace h := h.2 c3
            refine lv_iload hx hb dX0_keptByMirrors_34 (lv_at hl 6 rfl) ?_
            refine lv_iload_n hx hb dX0_keptByMirrors_36 rfl (lv_at hl 1 rfl) ?_
            refine lv_icmp_gt (tgt := 79) hx hb dX0_keptByMirrors_37 (by decide) (fun c4 => ?_) (fun c4 => ?_)
            · replace h := h.1 c4
              exact w79 l0 l1 l2 l3 h ls (lv_sub hl [0, 1, 2, 3] rfl)
            · replace h := h.2 c4
              refine lv_iload_n hx hb dX0_keptByMirrors_40 rfl (lv_at hl 1 rfl) ?_
              refine lv_iload hx hb dX0_keptByMirrors_41 (lv_at hl 6 rfl) ?_
              refine lv_isub hx hb dX0_keptByMirrors_43 ?_
              refine lv_iconst (v := 2) hx hb dX0_keptByMirrors_44 (by decide) ?_
              refine vs_calli (va_runSN (As := [.int (l1 - l6), .int 2]) (rest := []) ⟨hx, hb, hml, hown, hts⟩ (c_X6_leftOver l (l1 - l6) 2 _ h) ⟨va_cnB 2 hts gX0_keptByMirrors_X6_leftOver_n24 rfl rfl rfl (nw_48 hN) (hts (.initialized RX6) (by decide +kernel)) (by decide +kernel) ⟨Nat.le_of_ble_eq_true rfl, Nat.le_of_ble_eq_true rfl⟩, hts (.static yX6_leftOver) (by decide +kernel), trivial⟩ ⟨fun a U g mk q => ⟨q.1, nW_call q.2⟩, fun U hU hW => ⟨rfl, nW_warm hW hN⟩⟩ rfl rfl hl.1 rfl (lv_room (Nat.le_of_ble_eq_true rfl)) dX0_keptByMirrors_45 ⟨Nat.le_of_ble_eq_true rfl, Nat.le_of_ble_eq_true rfl⟩) (fun r5 h => ?_)
              refine lv_if_ne (tgt := 73) hx hb dX0_keptByMirrors_48 (by decide) (fun c6 => ?_) (fun c6 => ?_)
              · replace h := h.1 c6
                exact w73 l0 l1 l2 l3 l4 l5 l6 h ls (lv_sub hl [0, 1, 2, 3, 4, 5, 6] rfl)
              · replace h := h.2 c6
                refine lv_iload_n hx hb dX0_keptByMirrors_51 rfl (lv_at hl 2 rfl) ?_
                refine lv_iload hx hb dX0_keptByMirrors_52 (lv_at hl 4 rfl) ?_
                refine lv_iload hx hb dX0_keptByMirrors_54 (lv_at hl 6 rfl) ?_
                refine vs_calli (va_runS (As := [.int l4, .int l6]) (rest := [.int l2]) ⟨hx, hb, hml, hown, hts⟩ (c_X0_choose l l4 l6 _ h) (va_cwS 2 hts gX0_keptByMirrors_X0_choose rfl rfl rfl (by decide +kernel) ⟨Nat.le_of_ble_eq_true rfl, Nat.le_of_ble_eq_true rfl⟩) ⟨fun a U g mk q => ⟨q.1, nW_call q.2⟩, fun U hU hW => ⟨rfl, nW_warm hW hN⟩⟩ rfl rfl hl.1 rfl (lv_room (Nat.le_of_ble_eq_true rfl)) dX0_keptByMirrors_56 ⟨Nat.le_of_ble_eq_true rfl, Nat.le_of_ble_eq_true rfl⟩) (fun r7 h => ?_)
                refine lv_iload hx hb dX0_keptByMirrors_59 (lv_at hl 5 rfl) ?_
                refine lv_iload_n hx hb dX0_keptByMirrors_61 rfl (lv_at hl 1 rfl) ?_
                refine lv_iload hx hb dX0_keptByMirrors_62 (lv_at hl 6 rfl) ?_
                refine lv_isub hx hb dX0_keptByMirrors_64 ?_
                refine lv_iconst (v := 2) hx hb dX0_keptByMirrors_65 (by decide) ?_
                refine lv_idiv hx hb dX0_keptByMirrors_66 h.1 ?_
                replace h := h.2
                refine vs_calli (va_runS (As := [.int l5, .int ((l1 - l6) / 2)]) (rest := [.int r7, .int l2]) ⟨hx, hb, hml, hown, hts⟩ (c_X0_choose l l5 ((l1 - l6) / 2) _ h) (va_cwS 2 hts gX0_keptByMirrors_X0_choose rfl rfl rfl (by decide +kernel) ⟨Nat.le_of_ble_eq_true rfl, Nat.le_of_ble_eq_true rfl⟩) ⟨fun a U g mk q => ⟨q.1, nW_call q.2⟩, fun U hU hW => ⟨rfl, nW_warm hW hN⟩⟩ rfl rfl hl.1 rfl (lv_room (Nat.le_of_ble_eq_true rfl)) dX0_keptByMirrors_67 ⟨Nat.le_of_ble_eq_true rfl, Nat.le_of_ble_eq_true rfl⟩) (fun r8 h => ?_)
                refine lv_imul hx hb dX0_keptByMirrors_70 ?_
                refine lv_iadd hx hb dX0_keptByMirrors_71 ?_
                refine lv_topi (fun x9 ex9 => ?_)
                replace h := h x9 ex9
                refine lv_istore_n (lv' := [(2, .int x9), (0, .int l0), (1, .int l1), (3, .int l3), (4, .int l4), (5, .int l5), (6, .int l6)]) hx hb dX0_keptByMirrors_72 rfl hl (by decide) rfl (fun ls hl => ?_)
                exact w73 l0 l1 x9 l3 l4 l5 l6 h ls (lv_sub hl [1, 2, 0, 3, 4, 5, 6] rfl)
      intro l0 l1 l2 l3 h ls hl
      unfold wp_X0_keptByMirrors_h4 at h
      refine lv_iload_n hx hb dX0_keptByMirrors_4 rfl (lv_at hl 3 rfl) ?_
      refine lv_iload_n hx hb dX0_keptByMirrors_5 rfl (lv_at hl 0 rfl) ?_
      refine lv_icmp_ge (tgt := 85) hx hb dX0_keptByMirrors_6 (by decide) (fun c10 => ?_) (fun c10 => ?_)
      · replace h := h.1 c10
        refine lv_iload_n hx hb dX0_keptByMirrors_85 rfl (lv_at hl 2 rfl) ?_
        exact W.iret (v := l2) hx hb hr (fun t ht hW => ⟨_, rfl, h, ht⟩) (fun _ h => by cases h) dX0_keptByMirrors_86
      · replace h := h.2 c10
        refine lv_iload_n hx hb dX0_keptByMirrors_9 rfl (lv_at hl 0 rfl) ?_
        refine lv_iload_n hx hb dX0_keptByMirrors_10 rfl (lv_at hl 3 rfl) ?_
        refine vs_calli (va_runS (As := [.int l0, .int l3]) (rest := []) ⟨hx, hb, hml, hown, hts⟩ (c_X0_stillBeats l l0 l3 _ h) (va_cwS 2 hts gX0_keptByMirrors_X0_stillBeats rfl rfl rfl (by decide +kernel) ⟨Nat.le_of_ble_eq_true rfl, Nat.le_of_ble_eq_true rfl⟩) ⟨fun a U g mk q => ⟨q.1, nW_call q.2⟩, fun U hU hW => ⟨rfl, nW_warm hW hN⟩⟩ rfl rfl hl.1 rfl (lv_room (Nat.le_of_ble_eq_true rfl)) dX0_keptByMirrors_11 ⟨Nat.le_of_ble_eq_true rfl, Nat.le_of_ble_eq_true rfl⟩) (fun r11 h => ?_)
        refine lv_istore (lv' := [(4, .int r11), (0, .int l0), (1, .int l1), (2, .int l2), (3, .int l3)]) hx hb dX0_keptByMirrors_14 hl (by decide) rfl (fun ls hl => ?_)
        refine lv_iload_n hx hb dX0_keptByMirrors_16 rfl (lv_at hl 1 rfl) ?_
        refine lv_iload hx hb dX0_keptByMirrors_17 (lv_at hl 0 rfl) ?_
        refine lv_isub hx hb dX0_keptByMirrors_19 ?_
        refine lv_iconst (v := 2) hx hb dX0_keptByMirrors_20 (by decide) ?_
        refine lv_idiv hx hb dX0_keptByMirrors_21 h.1 ?_
        replace h := h.2
        refine lv_topi (fun x12 ex12 => ?_)
        replace h := h x12 ex12
        refine lv_istore (lv' := [(5, .int x12), (4, .int r11), (0, .int l0), (1, .int l1), (2, .int l2), (3, .int l3)]) hx hb dX0_keptByMirrors_22 hl (by decide) rfl (fun ls hl => ?_)
        refine lv_iconst (v := 0) hx hb dX0_keptByMirrors_24 (by decide) ?_
        refine lv_istore (lv' := [(6, .int 0), (5, .int x12), (4, .int r11), (0, .int l0), (1, .int l1), (2, .int l2), (3, .int l3)]) hx hb dX0_keptByMirrors_25 hl (by decide) rfl (fun ls hl => ?_)
        obtain ⟨k13, h⟩ := h
        exact w27 k13 l0 l1 l2 l3 r11 x12 0 h ls (lv_sub hl [3, 4, 5, 6, 2, 1, 0] rfl)
  have hl := lv_entry ([.int p0, .int p1]) (n := 7) (Nat.le_of_ble_eq_true rfl)
  rw [lg_entry_eq]
  generalize (lg_sl ([.int p0, .int p1]) ++ List.replicate (7 - (lg_sl ([.int p0, .int p1])).length) Slot.unset).toArray = ls at hl ⊢
  have hl : lv_has ls 7 [(0, .int p0), (1, .int p1)] := hl
  refine lv_iconst (v := 0) hx hb dX0_keptByMirrors_0 (by decide) ?_
  refine lv_istore_n (lv' := [(2, .int 0), (0, .int p0), (1, .int p1)]) hx hb dX0_keptByMirrors_1 rfl hl (by decide) rfl (fun ls hl => ?_)
  refine lv_iconst (v := 0) hx hb dX0_keptByMirrors_2 (by decide) ?_
  refine lv_istore_n (lv' := [(3, .int 0), (2, .int 0), (0, .int p0), (1, .int p1)]) hx hb dX0_keptByMirrors_3 rfl hl (by decide) rfl (fun ls hl => ?_)
  obtain ⟨k14, h⟩ := h
  exact w4 k14 p0 p1 0 0 h ls (lv_sub hl [2, 3, 1, 0] rfl)

def wp_X0_turnedOrMirrored (p0 : Int32) (p1 : Int32) (Q : Int32 → Prop) : Prop := wp_X0_keptByTurns p0 p1 fun (r1 : Int32) => wp_X0_keptByMirrors p0 p1 fun (r2 : Int32) => wp_X6_quotient (r1 + r2) (2 * p0) fun (r3 : Int32) => Q r3
abbrev rmX0_turnedOrMirrored : Room := { frames := 3, cells := 0, slots := 0, locals := 71 }
set_option maxHeartbeats 4000000 in
set_option maxRecDepth 100000 in
theorem c_X0_turnedOrMirrored (l : Launch) (p0 : Int32) (p1 : Int32) (Q : Int32 → Prop) (h : wp_X0_turnedOrMirrored p0 p1 Q) : Met l yX0_turnedOrMirrored wsX0_turnedOrMirrored (rmX0_turnedOrMirrored) (va_Pc [.int p0, .int p1] (fun U => nW U)) (vp_Si Q) 0 0 (fun _ => False) := by
  unfold wp_X0_turnedOrMirrored at h
  refine Met.ofW (cc := cX0_turnedOrMirrored) (maxL := 2) (ret := (some .int)) (by decide) rfl ?_
  intro p e s m args below meth c s₁ B hml hv
  obtain ⟨rfl, hN⟩ := hv
  have hx := B.exec
  have hb := B.bytes
  have hr := B.returns
  have hts := atoms_spec (ws := wsX0_turnedOrMirrored) B.pre
  have hown : s.vm.findClass RX0 = some m.cls := findClass_of_methodNamed B.named
  have hlocks := B.notSynchronized
  have hl := lv_entry ([.int p0, .int p1]) (n := 2) (Nat.le_of_ble_eq_true rfl)
  rw [lg_entry_eq]
  generalize (lg_sl ([.int p0, .int p1]) ++ List.replicate (2 - (lg_sl ([.int p0, .int p1])).length) Slot.unset).toArray = ls at hl ⊢
  have hl : lv_has ls 2 [(0, .int p0), (1, .int p1)] := hl
  refine lv_iload_n hx hb dX0_turnedOrMirrored_0 rfl (lv_at hl 0 rfl) ?_
  refine lv_iload_n hx hb dX0_turnedOrMirrored_1 rfl (lv_at hl 1 rfl) ?_
  refine vs_calli (va_runS (As := [.int p0, .int p1]) (rest := []) ⟨hx, hb, hml, hown, hts⟩ (c_X0_keptByTurns l p0 p1 _ h) (va_cwS 2 hts gX0_turnedOrMirrored_X0_keptByTurns rfl rfl rfl (by decide +kernel) ⟨Nat.le_of_ble_eq_true rfl, Nat.le_of_ble_eq_true rfl⟩) ⟨fun a U g mk q => ⟨q.1, nW_call q.2⟩, fun U hU hW => ⟨rfl, nW_warm hW hN⟩⟩ rfl rfl hl.1 rfl (lv_room (Nat.le_of_ble_eq_true rfl)) dX0_turnedOrMirrored_2 ⟨Nat.le_of_ble_eq_true rfl, Nat.le_of_ble_eq_true rfl⟩) (fun r1 h => ?_)
  refine lv_iload_n hx hb dX0_turnedOrMirrored_5 rfl (lv_at hl 0 rfl) ?_
  refine lv_iload_n hx hb dX0_turnedOrMirrored_6 rfl (lv_at hl 1 rfl) ?_
  refine vs_calli (va_runS (As := [.int p0, .int p1]) (rest := [.int r1]) ⟨hx, hb, hml, hown, hts⟩ (c_X0_keptByMirrors l p0 p1 _ h) (va_cwS 2 hts gX0_turnedOrMirrored_X0_keptByMirrors rfl rfl rfl (by decide +kernel) ⟨Nat.le_of_ble_eq_true rfl, Nat.le_of_ble_eq_true rfl⟩) ⟨fun a U g mk q => ⟨q.1, nW_call q.2⟩, fun U hU hW => ⟨rfl, nW_warm hW hN⟩⟩ rfl rfl hl.1 rfl (lv_room (Nat.le_of_ble_eq_true rfl)) dX0_turnedOrMirrored_7 ⟨Nat.le_of_ble_eq_true rfl, Nat.le_of_ble_eq_true rfl⟩) (fun r2 h => ?_)
  refine lv_iadd hx hb dX0_turnedOrMirrored_10 ?_
  refine lv_iconst (v := 2) hx hb dX0_turnedOrMirrored_11 (by decide) ?_
  refine lv_iload_n hx hb dX0_turnedOrMirrored_12 rfl (lv_at hl 0 rfl) ?_
  refine lv_imul hx hb dX0_turnedOrMirrored_13 ?_
  refine vs_calli (va_runSN (As := [.int (r1 + r2), .int (2 * p0)]) (rest := []) ⟨hx, hb, hml, hown, hts⟩ (c_X6_quotient l (r1 + r2) (2 * p0) _ h) ⟨va_cnB 2 hts gX0_turnedOrMirrored_X6_quotient_n13 rfl rfl rfl (nw_49 hN) (hts (.initialized RX6) (by decide +kernel)) (by decide +kernel) ⟨Nat.le_of_ble_eq_true rfl, Nat.le_of_ble_eq_true rfl⟩, hts (.static yX6_quotient) (by decide +kernel), trivial⟩ ⟨fun a U g mk q => ⟨q.1, nW_call q.2⟩, fun U hU hW => ⟨rfl, nW_warm hW hN⟩⟩ rfl rfl hl.1 rfl (lv_room (Nat.le_of_ble_eq_true rfl)) dX0_turnedOrMirrored_14 ⟨Nat.le_of_ble_eq_true rfl, Nat.le_of_ble_eq_true rfl⟩) (fun r3 h => ?_)
  exact W.iret (v := r3) hx hb hr (fun t ht hW => ⟨_, rfl, h, ht⟩) (fun _ h => by cases h) dX0_turnedOrMirrored_17

def wp_X6_full (p0 : Int32) (Q : Int32 → Prop) : Prop := Q ((1 <<< (p0 &&& 31)) - 1)
abbrev rmX6_full : Room := { frames := 0, cells := 0, slots := 0, locals := 0 }
set_option maxHeartbeats 4000000 in
set_option maxRecDepth 100000 in
theorem c_X6_full (l : Launch) (p0 : Int32) (Q : Int32 → Prop) (h : wp_X6_full p0 Q) : Met l yX6_full wsX6_full (rmX6_full) (va_Pc [.int p0] (fun U => nW U)) (vp_Si Q) 0 0 (fun _ => False) := by
  unfold wp_X6_full at h
  refine Met.ofW (cc := cX6_full) (maxL := 1) (ret := (some .int)) (by decide) rfl ?_
  intro p e s m args below meth c s₁ B hml hv
  obtain ⟨rfl, hN⟩ := hv
  have hx := B.exec
  have hb := B.bytes
  have hr := B.returns
  have hts := atoms_spec (ws := wsX6_full) B.pre
  have hown : s.vm.findClass RX6 = some m.cls := findClass_of_methodNamed B.named
  have hlocks := B.notSynchronized
  have hl := lv_entry ([.int p0]) (n := 1) (Nat.le_of_ble_eq_true rfl)
  rw [lg_entry_eq]
  generalize (lg_sl ([.int p0]) ++ List.replicate (1 - (lg_sl ([.int p0])).length) Slot.unset).toArray = ls at hl ⊢
  have hl : lv_has ls 1 [(0, .int p0)] := hl
  refine lv_iconst (v := 1) hx hb dX6_full_0 (by decide) ?_
  refine lv_iload_n hx hb dX6_full_1 rfl (lv_at hl 0 rfl) ?_
  refine lv_ishl hx hb dX6_full_2 ?_
  refine lv_iconst (v := 1) hx hb dX6_full_3 (by decide) ?_
  refine lv_isub hx hb dX6_full_4 ?_
  exact W.iret (v := ((1 <<< (p0 &&& 31)) - 1)) hx hb hr (fun t ht hW => ⟨_, rfl, h, ht⟩) (fun _ h => by cases h) dX6_full_5

def wp_X6_bit (p0 : Int32) (p1 : Int32) (Q : Int32 → Prop) : Prop := Q ((jushr p0 p1) &&& 1)
abbrev rmX6_bit : Room := { frames := 0, cells := 0, slots := 0, locals := 0 }
set_option maxHeartbeats 4000000 in
set_option maxRecDepth 100000 in
theorem c_X6_bit (l : Launch) (p0 : Int32) (p1 : Int32) (Q : Int32 → Prop) (h : wp_X6_bit p0 p1 Q) : Met l yX6_bit wsX6_bit (rmX6_bit) (va_Pc [.int p0, .int p1] (fun U => nW U)) (vp_Si Q) 0 0 (fun _ => False) := by
  unfold wp_X6_bit at h
  refine Met.ofW (cc := cX6_bit) (maxL := 2) (ret := (some .int)) (by decide) rfl ?_
  intro p e s m args below meth c s₁ B hml hv
  obtain ⟨rfl, hN⟩ := hv
  have hx := B.exec
  have hb := B.bytes
  have hr := B.returns
  have hts := atoms_spec (ws := wsX6_bit) B.pre
  have hown : s.vm.findClass RX6 = some m.cls := findClass_of_methodNamed B.named
  have hlocks := B.notSynchronized
  have hl := lv_entry ([.int p0, .int p1]) (n := 2) (Nat.le_of_ble_eq_true rfl)
  rw [lg_entry_eq]
  generalize (lg_sl ([.int p0, .int p1]) ++ List.replicate (2 - (lg_sl ([.int p0, .int p1])).length) Slot.unset).toArray = ls at hl ⊢
  have hl : lv_has ls 2 [(0, .int p0), (1, .int p1)] := hl
  refine lv_iload_n hx hb dX6_bit_0 rfl (lv_at hl 0 rfl) ?_
  refine lv_iload_n hx hb dX6_bit_1 rfl (lv_at hl 1 rfl) ?_
  refine lv_iushr (v := (jushr p0 p1)) hx hb dX6_bit_2 rfl ?_
  refine lv_iconst (v := 1) hx hb dX6_bit_3 (by decide) ?_
  refine lv_iand hx hb dX6_bit_4 ?_
  exact W.iret (v := ((jushr p0 p1) &&& 1)) hx hb hr (fun t ht hW => ⟨_, rfl, h, ht⟩) (fun _ h => by cases h) dX6_bit_5

def wp_X6_stretched_j34 (L5 : Int32 → Int32 → Int32 → Int32 → Int32 → Prop) (Q : Int32 → Prop) (l0 : Int32) (l1 : Int32) (l2 : Int32) (l3 : Int32) (l4 : Int32) : Prop := ∀ x1 : Int32, x1 = l4 + 1 → L5 l0 l1 l2 l3 x1
def wp_X6_stretched_h5 (Q : Int32 → Prop) : Nat → Int32 → Int32 → Int32 → Int32 → Int32 → Prop
  | 0, _, _, _, _, _ => False
  | z5 + 1, l0, l1, l2, l3, l4 => (l0 ≤ l4 → (Q l3)) ∧ (¬ l0 ≤ l4 → (wp_X6_bit l1 l4 fun (r3 : Int32) => (¬ r3 = 1 → (wp_X6_stretched_j34 (wp_X6_stretched_h5 Q z5) Q l0 l1 l2 l3 l4)) ∧ (r3 = 1 → (wp_X6_leftOver (l4 * l2) l0 fun (r5 : Int32) => ∀ x6 : Int32, x6 = (l3 ||| (1 <<< (r5 &&& 31))) → wp_X6_stretched_j34 (wp_X6_stretched_h5 Q z5) Q l0 l1 l2 x6 l4))))
def wp_X6_stretched (p0 : Int32) (p1 : Int32) (p2 : Int32) (Q : Int32 → Prop) : Prop := ∃ k7 : Nat, wp_X6_stretched_h5 Q k7 p0 p1 p2 0 0
abbrev rmX6_stretched : Room := { frames := 1, cells := 0, slots := 0, locals := 22 }
set_option maxHeartbeats 4000000 in
set_option maxRecDepth 100000 in
theorem c_X6_stretched (l : Launch) (p0 : Int32) (p1 : Int32) (p2 : Int32) (Q : Int32 → Prop) (h : wp_X6_stretched p0 p1 p2 Q) : Met l yX6_stretched wsX6_stretched (rmX6_stretched) (va_Pc [.int p0, .int p1, .int p2] (fun U => nW U)) (vp_Si Q) 0 0 (fun _ => False) := by
  unfold wp_X6_stretched at h
  refine Met.ofW (cc := cX6_stretched) (maxL := 5) (ret := (some .int)) (by decide) rfl ?_
  intro p e s m args below meth c s₁ B hml hv
  obtain ⟨rfl, hN⟩ := hv
  have hx := B.exec
  have hb := B.bytes
  have hr := B.returns
  have hts := atoms_spec (ws := wsX6_stretched) B.pre
  have hown : s.vm.findClass RX6 = some m.cls := findClass_of_methodNamed B.named
  have hlocks := B.notSynchronized
  have w5 : ∀ (z5 : Nat) (l0 : Int32) (l1 : Int32) (l2 : Int32) (l3 : Int32) (l4 : Int32), wp_X6_stretched_h5 Q z5 l0 l1 l2 l3 l4 → ∀ (ls : Array Slot), lv_has ls 5 [(0, .int l0), (1, .int l1), (2, .int l2), (3, .int l3), (4, .int l4)] → W p l e (headSpec wsX6_stretched (rmX6_stretched)).room s m ([.int p0, .int p1, .int p2] : List Value).toArray below meth c s.heap [] 0 0 (MQ below (vp_Si Q) ([.int p0, .int p1, .int p2] : List Value).toArray s 0 0 (fun _ => False)) (F0 m 5 ls []) := by
    intro z5
    induction z5 with
    | zero => intro l0 l1 l2 l3 l4 h; unfold wp_X6_stretched_h5 at h; exact h.elim
    | succ z5 k5 =>
      have w34 : ∀ (l0 : Int32) (l1 : Int32) (l2 : Int32) (l3 : Int32) (l4 : Int32), wp_X6_stretched_j34 (wp_X6_stretched_h5 Q z5) Q l0 l1 l2 l3 l4 → ∀ (ls : Array Slot), lv_has ls 5 [(0, .int l0), (1, .int l1), (2, .int l2), (3, .int l3), (4, .int l4)] → W p l e (headSpec wsX6_stretched (rmX6_stretched)).room s m ([.int p0, .int p1, .int p2] : List Value).toArray below meth c s.heap [] 0 0 (MQ below (vp_Si Q) ([.int p0, .int p1, .int p2] : List Value).toArray s 0 0 (fun _ => False)) (F0 m 34 ls []) := by
        intro l0 l1 l2 l3 l4 h ls hl
        unfold wp_X6_stretched_j34 at h
        obtain ⟨x1, ex1⟩ : ∃ y : Int32, y = l4 + 1 := ⟨_, rfl⟩
        replace h := h x1 ex1
        refine lv_iinc (v := x1) (lv' := [(4, .int x1), (0, .int l0), (1, .int l1), (2, .int l2), (3, .int l3)]) hx hb dX6_stretched_34 hl (k := 4) rfl (by rw [ex1]; rfl) (by decide) rfl (fun ls hl => ?_)
        refine lv_goto (tgt := 5) hx hb dX6_stretched_37 (by decide) ?_
        exact k5 l0 l1 l2 l3 x1 h ls (lv_sub hl [1, 2, 3, 4, 0] rfl)
      intro l0 l1 l2 l3 l4 h ls hl
      unfold wp_X6_stretched_h5 at h
      refine lv_iload hx hb dX6_stretched_5 (lv_at hl 4 rfl) ?_
      refine lv_iload_n hx hb dX6_stretched_7 rfl (lv_at hl 0 rfl) ?_
      refine lv_icmp_ge (tgt := 40) hx hb dX6_stretched_8 (by decide) (fun c2 => ?_) (fun c2 => ?_)
      · replace h := h.1 c2
        refine lv_iload_n hx hb dX6_stretched_40 rfl (lv_at hl 3 rfl) ?_
        exact W.iret (v := l3) hx hb hr (fun t ht hW => ⟨_, rfl, h, ht⟩) (fun _ h => by cases h) dX6_stretched_41
      · replace h := h.2 c2
        refine lv_iload_n hx hb dX6_stretched_11 rfl (lv_at hl 1 rfl) ?_
        refine lv_iload hx hb dX6_stretched_12 (lv_at hl 4 rfl) ?_
        refine vs_calli (va_runS (As := [.int l1, .int l4]) (rest := []) ⟨hx, hb, hml, hown, hts⟩ (c_X6_bit l l1 l4 _ h) (va_cwS 2 hts gX6_stretched_X6_bit rfl rfl rfl (by decide +kernel) ⟨Nat.le_of_ble_eq_true rfl, Nat.le_of_ble_eq_true rfl⟩) ⟨fun a U g mk q => ⟨q.1, nW_call q.2⟩, fun U hU hW => ⟨rfl, nW_warm hW hN⟩⟩ rfl rfl hl.1 rfl (lv_room (Nat.le_of_ble_eq_true rfl)) dX6_stretched_14 ⟨Nat.le_of_ble_eq_true rfl, Nat.le_of_ble_eq_true rfl⟩) (fun r3 h => ?_)
        refine lv_iconst (v := 1) hx hb dX6_stretched_17 (by decide) ?_
        refine lv_icmp_ne (tgt := 34) hx hb dX6_stretched_18 (by decide) (fun c4 => ?_) (fun c4 => ?_)
        · replace h := h.1 c4
          exact w34 l0 l1 l2 l3 l4 h ls (lv_sub hl [0, 1, 2, 3, 4] rfl)
        · replace h := h.2 c4
          refine lv_iload_n hx hb dX6_stretched_21 rfl (lv_at hl 3 rfl) ?_
          refine lv_iconst (v := 1) hx hb dX6_stretched_22 (by decide) ?_
          refine lv_iload hx hb dX6_stretched_23 (lv_at hl 4 rfl) ?_
          refine lv_iload_n hx hb dX6_stretched_25 rfl (lv_at hl 2 rfl) ?_
          refine lv_imul hx hb dX6_stretched_26 ?_
          refine lv_iload_n hx hb dX6_stretched_27 rfl (lv_at hl 0 rfl) ?_
          refine vs_calli (va_runS (As := [.int (l4 * l2), .int l0]) (rest := [.int 1, .int l3]) ⟨hx, hb, hml, hown, hts⟩ (c_X6_leftOver l (l4 * l2) l0 _ h) (va_cwS 2 hts gX6_stretched_X6_leftOver rfl rfl rfl (by decide +kernel) ⟨Nat.le_of_ble_eq_true rfl, Nat.le_of_ble_eq_true rfl⟩) ⟨fun a U g mk q => ⟨q.1, nW_call q.2⟩, fun U hU hW => ⟨rfl, nW_warm hW hN⟩⟩ rfl rfl hl.1 rfl (lv_room (Nat.le_of_ble_eq_true rfl)) dX6_stretched_28 ⟨Nat.le_of_ble_eq_true rfl, Nat.le_of_ble_eq_true rfl⟩) (fun r5 h => ?_)
          refine lv_ishl hx hb dX6_stretched_31 ?_
          refine lv_ior hx hb dX6_stretched_32 ?_
          refine lv_topi (fun x6 ex6 => ?_)
          replace h := h x6 ex6
          refine lv_istore_n (lv' := [(3, .int x6), (0, .int l0), (1, .int l1), (2, .int l2), (4, .int l4)]) hx hb dX6_stretched_33 rfl hl (by decide) rfl (fun ls hl => ?_)
          exact w34 l0 l1 l2 x6 l4 h ls (lv_sub hl [1, 2, 3, 0, 4] rfl)
  have hl := lv_entry ([.int p0, .int p1, .int p2]) (n := 5) (Nat.le_of_ble_eq_true rfl)
  rw [lg_entry_eq]
  generalize (lg_sl ([.int p0, .int p1, .int p2]) ++ List.replicate (5 - (lg_sl ([.int p0, .int p1, .int p2])).length) Slot.unset).toArray = ls at hl ⊢
  have hl : lv_has ls 5 [(0, .int p0), (1, .int p1), (2, .int p2)] := hl
  refine lv_iconst (v := 0) hx hb dX6_stretched_0 (by decide) ?_
  refine lv_istore_n (lv' := [(3, .int 0), (0, .int p0), (1, .int p1), (2, .int p2)]) hx hb dX6_stretched_1 rfl hl (by decide) rfl (fun ls hl => ?_)
  refine lv_iconst (v := 0) hx hb dX6_stretched_2 (by decide) ?_
  refine lv_istore (lv' := [(4, .int 0), (3, .int 0), (0, .int p0), (1, .int p1), (2, .int p2)]) hx hb dX6_stretched_3 hl (by decide) rfl (fun ls hl => ?_)
  obtain ⟨k7, h⟩ := h
  exact w5 k7 p0 p1 p2 0 0 h ls (lv_sub hl [2, 3, 4, 1, 0] rfl)

def wp_X6_mirrored (p0 : Int32) (p1 : Int32) (Q : Int32 → Prop) : Prop := wp_X6_stretched p0 p1 (-1) fun (r1 : Int32) => Q r1
abbrev rmX6_mirrored : Room := { frames := 2, cells := 0, slots := 0, locals := 46 }
set_option maxHeartbeats 4000000 in
set_option maxRecDepth 100000 in
theorem c_X6_mirrored (l : Launch) (p0 : Int32) (p1 : Int32) (Q : Int32 → Prop) (h : wp_X6_mirrored p0 p1 Q) : Met l yX6_mirrored wsX6_mirrored (rmX6_mirrored) (va_Pc [.int p0, .int p1] (fun U => nW U)) (vp_Si Q) 0 0 (fun _ => False) := by
  unfold wp_X6_mirrored at h
  refine Met.ofW (cc := cX6_mirrored) (maxL := 2) (ret := (some .int)) (by decide) rfl ?_
  intro p e s m args below meth c s₁ B hml hv
  obtain ⟨rfl, hN⟩ := hv
  have hx := B.exec
  have hb := B.bytes
  have hr := B.returns
  have hts := atoms_spec (ws := wsX6_mirrored) B.pre
  have hown : s.vm.findClass RX6 = some m.cls := findClass_of_methodNamed B.named
  have hlocks := B.notSynchronized
  have hl := lv_entry ([.int p0, .int p1]) (n := 2) (Nat.le_of_ble_eq_true rfl)
  rw [lg_entry_eq]
  generalize (lg_sl ([.int p0, .int p1]) ++ List.replicate (2 - (lg_sl ([.int p0, .int p1])).length) Slot.unset).toArray = ls at hl ⊢
  have hl : lv_has ls 2 [(0, .int p0), (1, .int p1)] := hl
  refine lv_iload_n hx hb dX6_mirrored_0 rfl (lv_at hl 0 rfl) ?_
  refine lv_iload_n hx hb dX6_mirrored_1 rfl (lv_at hl 1 rfl) ?_
  refine lv_iconst (v := (-1)) hx hb dX6_mirrored_2 (by decide) ?_
  refine vs_calli (va_runS (As := [.int p0, .int p1, .int (-1)]) (rest := []) ⟨hx, hb, hml, hown, hts⟩ (c_X6_stretched l p0 p1 (-1) _ h) (va_cwS 3 hts gX6_mirrored_X6_stretched rfl rfl rfl (by decide +kernel) ⟨Nat.le_of_ble_eq_true rfl, Nat.le_of_ble_eq_true rfl⟩) ⟨fun a U g mk q => ⟨q.1, nW_call q.2⟩, fun U hU hW => ⟨rfl, nW_warm hW hN⟩⟩ rfl rfl hl.1 rfl (lv_room (Nat.le_of_ble_eq_true rfl)) dX6_mirrored_3 ⟨Nat.le_of_ble_eq_true rfl, Nat.le_of_ble_eq_true rfl⟩) (fun r1 h => ?_)
  exact W.iret (v := r1) hx hb hr (fun t ht hW => ⟨_, rfl, h, ht⟩) (fun _ h => by cases h) dX6_mirrored_6

def wp_X6_moved (p0 : Int32) (p1 : Int32) (p2 : Int32) (Q : Int32 → Prop) : Prop := wp_X6_leftOver p2 p0 fun (r1 : Int32) => wp_X6_full p0 fun (r2 : Int32) => Q (((p1 <<< (r1 &&& 31)) ||| (jushr p1 (p0 - r1))) &&& r2)
abbrev rmX6_moved : Room := { frames := 1, cells := 0, slots := 0, locals := 22 }
set_option maxHeartbeats 4000000 in
set_option maxRecDepth 100000 in
theorem c_X6_moved (l : Launch) (p0 : Int32) (p1 : Int32) (p2 : Int32) (Q : Int32 → Prop) (h : wp_X6_moved p0 p1 p2 Q) : Met l yX6_moved wsX6_moved (rmX6_moved) (va_Pc [.int p0, .int p1, .int p2] (fun U => nW U)) (vp_Si Q) 0 0 (fun _ => False) := by
  unfold wp_X6_moved at h
  refine Met.ofW (cc := cX6_moved) (maxL := 4) (ret := (some .int)) (by decide) rfl ?_
  intro p e s m args below meth c s₁ B hml hv
  obtain ⟨rfl, hN⟩ := hv
  have hx := B.exec
  have hb := B.bytes
  have hr := B.returns
  have hts := atoms_spec (ws := wsX6_moved) B.pre
  have hown : s.vm.findClass RX6 = some m.cls := findClass_of_methodNamed B.named
  have hlocks := B.notSynchronized
  have hl := lv_entry ([.int p0, .int p1, .int p2]) (n := 4) (Nat.le_of_ble_eq_true rfl)
  rw [lg_entry_eq]
  generalize (lg_sl ([.int p0, .int p1, .int p2]) ++ List.replicate (4 - (lg_sl ([.int p0, .int p1, .int p2])).length) Slot.unset).toArray = ls at hl ⊢
  have hl : lv_has ls 4 [(0, .int p0), (1, .int p1), (2, .int p2)] := hl
  refine lv_iload_n hx hb dX6_moved_0 rfl (lv_at hl 2 rfl) ?_
  refine lv_iload_n hx hb dX6_moved_1 rfl (lv_at hl 0 rfl) ?_
  refine vs_calli (va_runS (As := [.int p2, .int p0]) (rest := []) ⟨hx, hb, hml, hown, hts⟩ (c_X6_leftOver l p2 p0 _ h) (va_cwS 2 hts gX6_moved_X6_leftOver rfl rfl rfl (by decide +kernel) ⟨Nat.le_of_ble_eq_true rfl, Nat.le_of_ble_eq_true rfl⟩) ⟨fun a U g mk q => ⟨q.1, nW_call q.2⟩, fun U hU hW => ⟨rfl, nW_warm hW hN⟩⟩ rfl rfl hl.1 rfl (lv_room (Nat.le_of_ble_eq_true rfl)) dX6_moved_2 ⟨Nat.le_of_ble_eq_true rfl, Nat.le_of_ble_eq_true rfl⟩) (fun r1 h => ?_)
  refine lv_istore_n (lv' := [(3, .int r1), (0, .int p0), (1, .int p1), (2, .int p2)]) hx hb dX6_moved_5 rfl hl (by decide) rfl (fun ls hl => ?_)
  refine lv_iload_n hx hb dX6_moved_6 rfl (lv_at hl 2 rfl) ?_
  refine lv_iload_n hx hb dX6_moved_7 rfl (lv_at hl 0 rfl) ?_
  refine lv_ishl hx hb dX6_moved_8 ?_
  refine lv_iload_n hx hb dX6_moved_9 rfl (lv_at hl 2 rfl) ?_
  refine lv_iload_n hx hb dX6_moved_10 rfl (lv_at hl 1 rfl) ?_
  refine lv_iload_n hx hb dX6_moved_11 rfl (lv_at hl 0 rfl) ?_
  refine lv_isub hx hb dX6_moved_12 ?_
  refine lv_iushr (v := (jushr p1 (p0 - r1))) hx hb dX6_moved_13 rfl ?_
  refine lv_ior hx hb dX6_moved_14 ?_
  refine lv_iload_n hx hb dX6_moved_15 rfl (lv_at hl 1 rfl) ?_
  refine vs_calli (va_runS (As := [.int p0]) (rest := [.int ((p1 <<< (r1 &&& 31)) ||| (jushr p1 (p0 - r1)))]) ⟨hx, hb, hml, hown, hts⟩ (c_X6_full l p0 _ h) (va_cwS 1 hts gX6_moved_X6_full rfl rfl rfl (by decide +kernel) ⟨Nat.le_of_ble_eq_true rfl, Nat.le_of_ble_eq_true rfl⟩) ⟨fun a U g mk q => ⟨q.1, nW_call q.2⟩, fun U hU hW => ⟨rfl, nW_warm hW hN⟩⟩ rfl rfl hl.1 rfl (lv_room (Nat.le_of_ble_eq_true rfl)) dX6_moved_16 ⟨Nat.le_of_ble_eq_true rfl, Nat.le_of_ble_eq_true rfl⟩) (fun r2 h => ?_)
  refine lv_iand hx hb dX6_moved_19 ?_
  exact W.iret (v := (((p1 <<< (r1 &&& 31)) ||| (jushr p1 (p0 - r1))) &&& r2)) hx hb hr (fun t ht hW => ⟨_, rfl, h, ht⟩) (fun _ h => by cases h) dX6_moved_20

def wp_X6_turnsThatStrike (p0 : Int32) (p1 : Int32) (p2 : Int32) (Q : Int32 → Prop) : Prop := wp_X6_mirrored p0 p1 fun (r1 : Int32) => wp_X6_moved p0 r1 p2 fun (r2 : Int32) => Q r2
abbrev rmX6_turnsThatStrike : Room := { frames := 3, cells := 0, slots := 0, locals := 67 }
set_option maxHeartbeats 4000000 in
set_option maxRecDepth 100000 in
theorem c_X6_turnsThatStrike (l : Launch) (p0 : Int32) (p1 : Int32) (p2 : Int32) (Q : Int32 → Prop) (h : wp_X6_turnsThatStrike p0 p1 p2 Q) : Met l yX6_turnsThatStrike wsX6_turnsThatStrike (rmX6_turnsThatStrike) (va_Pc [.int p0, .int p1, .int p2] (fun U => nW U)) (vp_Si Q) 0 0 (fun _ => False) := by
  unfold wp_X6_turnsThatStrike at h
  refine Met.ofW (cc := cX6_turnsThatStrike) (maxL := 3) (ret := (some .int)) (by decide) rfl ?_
  intro p e s m args below meth c s₁ B hml hv
  obtain ⟨rfl, hN⟩ := hv
  have hx := B.exec
  have hb := B.bytes
  have hr := B.returns
  have hts := atoms_spec (ws := wsX6_turnsThatStrike) B.pre
  have hown : s.vm.findClass RX6 = some m.cls := findClass_of_methodNamed B.named
  have hlocks := B.notSynchronized
  have hl := lv_entry ([.int p0, .int p1, .int p2]) (n := 3) (Nat.le_of_ble_eq_true rfl)
  rw [lg_entry_eq]
  generalize (lg_sl ([.int p0, .int p1, .int p2]) ++ List.replicate (3 - (lg_sl ([.int p0, .int p1, .int p2])).length) Slot.unset).toArray = ls at hl ⊢
  have hl : lv_has ls 3 [(0, .int p0), (1, .int p1), (2, .int p2)] := hl
  refine lv_iload_n hx hb dX6_turnsThatStrike_0 rfl (lv_at hl 0 rfl) ?_
  refine lv_iload_n hx hb dX6_turnsThatStrike_1 rfl (lv_at hl 0 rfl) ?_
  refine lv_iload_n hx hb dX6_turnsThatStrike_2 rfl (lv_at hl 1 rfl) ?_
  refine vs_calli (va_runS (As := [.int p0, .int p1]) (rest := [.int p0]) ⟨hx, hb, hml, hown, hts⟩ (c_X6_mirrored l p0 p1 _ h) (va_cwS 2 hts gX6_turnsThatStrike_X6_mirrored rfl rfl rfl (by decide +kernel) ⟨Nat.le_of_ble_eq_true rfl, Nat.le_of_ble_eq_true rfl⟩) ⟨fun a U g mk q => ⟨q.1, nW_call q.2⟩, fun U hU hW => ⟨rfl, nW_warm hW hN⟩⟩ rfl rfl hl.1 rfl (lv_room (Nat.le_of_ble_eq_true rfl)) dX6_turnsThatStrike_3 ⟨Nat.le_of_ble_eq_true rfl, Nat.le_of_ble_eq_true rfl⟩) (fun r1 h => ?_)
  refine lv_iload_n hx hb dX6_turnsThatStrike_6 rfl (lv_at hl 2 rfl) ?_
  refine vs_calli (va_runS (As := [.int p0, .int r1, .int p2]) (rest := []) ⟨hx, hb, hml, hown, hts⟩ (c_X6_moved l p0 r1 p2 _ h) (va_cwS 3 hts gX6_turnsThatStrike_X6_moved rfl rfl rfl (by decide +kernel) ⟨Nat.le_of_ble_eq_true rfl, Nat.le_of_ble_eq_true rfl⟩) ⟨fun a U g mk q => ⟨q.1, nW_call q.2⟩, fun U hU hW => ⟨rfl, nW_warm hW hN⟩⟩ rfl rfl hl.1 rfl (lv_room (Nat.le_of_ble_eq_true rfl)) dX6_turnsThatStrike_7 ⟨Nat.le_of_ble_eq_true rfl, Nat.le_of_ble_eq_true rfl⟩) (fun r2 h => ?_)
  exact W.iret (v := r2) hx hb hr (fun t ht hW => ⟨_, rfl, h, ht⟩) (fun _ h => by cases h) dX6_turnsThatStrike_10

def wp_J6_bitCount_0f7a4 (p0 : Int32) (Q : Int32 → Prop) : Prop := ∀ x1 : Int32, x1 = (p0 - ((jushr p0 1) &&& 1431655765)) → ∀ x2 : Int32, x2 = ((x1 &&& 858993459) + ((jushr x1 2) &&& 858993459)) → ∀ x3 : Int32, x3 = ((x2 + (jushr x2 4)) &&& 252645135) → ∀ x4 : Int32, x4 = (x3 + (jushr x3 8)) → ∀ x5 : Int32, x5 = (x4 + (jushr x4 16)) → Q (x5 &&& 63)
abbrev rmJ6_bitCount_0f7a4 : Room := { frames := 0, cells := 0, slots := 0, locals := 0 }
set_option maxHeartbeats 4000000 in
set_option maxRecDepth 100000 in
theorem c_J6_bitCount_0f7a4 (l : Launch) (p0 : Int32) (Q : Int32 → Prop) (h : wp_J6_bitCount_0f7a4 p0 Q) : Met l yJ6_bitCount_0f7a4 wsJ6_bitCount_0f7a4 (rmJ6_bitCount_0f7a4) (va_Pc [.int p0] (fun U => nW U)) (vp_Si Q) 0 0 (fun _ => False) := by
  unfold wp_J6_bitCount_0f7a4 at h
  refine Met.ofW (cc := cJ6_bitCount_0f7a4) (maxL := 1) (ret := (some .int)) (by decide) rfl ?_
  intro p e s m args below meth c s₁ B hml hv
  obtain ⟨rfl, hN⟩ := hv
  have hx := B.exec
  have hb := B.bytes
  have hr := B.returns
  have hts := atoms_spec (ws := wsJ6_bitCount_0f7a4) B.pre
  have hown : s.vm.findClass RJ6 = some m.cls := findClass_of_methodNamed B.named
  have hlocks := B.notSynchronized
  have hl := lv_entry ([.int p0]) (n := 1) (Nat.le_of_ble_eq_true rfl)
  rw [lg_entry_eq]
  generalize (lg_sl ([.int p0]) ++ List.replicate (1 - (lg_sl ([.int p0])).length) Slot.unset).toArray = ls at hl ⊢
  have hl : lv_has ls 1 [(0, .int p0)] := hl
  refine lv_iload_n hx hb dJ6_bitCount_0f7a4_0 rfl (lv_at hl 0 rfl) ?_
  refine lv_iload_n hx hb dJ6_bitCount_0f7a4_1 rfl (lv_at hl 0 rfl) ?_
  refine lv_iconst (v := 1) hx hb dJ6_bitCount_0f7a4_2 (by decide) ?_
  refine lv_iushr (v := (jushr p0 1)) hx hb dJ6_bitCount_0f7a4_3 rfl ?_
  refine lv_ldcw (v := 1431655765) hx hb hown (hts (.constant RJ6 265 (1431655765)) (by decide +kernel)) dJ6_bitCount_0f7a4_4 ?_
  refine lv_iand hx hb dJ6_bitCount_0f7a4_7 ?_
  refine lv_isub hx hb dJ6_bitCount_0f7a4_8 ?_
  refine lv_topi (fun x1 ex1 => ?_)
  replace h := h x1 ex1
  refine lv_istore_n (lv' := [(0, .int x1)]) hx hb dJ6_bitCount_0f7a4_9 rfl hl (by decide) rfl (fun ls hl => ?_)
  refine lv_iload_n hx hb dJ6_bitCount_0f7a4_10 rfl (lv_at hl 0 rfl) ?_
  refine lv_ldcw (v := 858993459) hx hb hown (hts (.constant RJ6 266 (858993459)) (by decide +kernel)) dJ6_bitCount_0f7a4_11 ?_
  refine lv_iand hx hb dJ6_bitCount_0f7a4_14 ?_
  refine lv_iload_n hx hb dJ6_bitCount_0f7a4_15 rfl (lv_at hl 0 rfl) ?_
  refine lv_iconst (v := 2) hx hb dJ6_bitCount_0f7a4_16 (by decide) ?_
  refine lv_iushr (v := (jushr x1 2)) hx hb dJ6_bitCount_0f7a4_17 rfl ?_
  refine lv_ldcw (v := 858993459) hx hb hown (hts (.constant RJ6 266 (858993459)) (by decide +kernel)) dJ6_bitCount_0f7a4_18 ?_
  refine lv_iand hx hb dJ6_bitCount_0f7a4_21 ?_
  refine lv_iadd hx hb dJ6_bitCount_0f7a4_22 ?_
  refine lv_topi (fun x2 ex2 => ?_)
  replace h := h x2 ex2
  refine lv_istore_n (lv' := [(0, .int x2)]) hx hb dJ6_bitCount_0f7a4_23 rfl hl (by decide) rfl (fun ls hl => ?_)
  refine lv_iload_n hx hb dJ6_bitCount_0f7a4_24 rfl (lv_at hl 0 rfl) ?_
  refine lv_iload_n hx hb dJ6_bitCount_0f7a4_25 rfl (lv_at hl 0 rfl) ?_
  refine lv_iconst (v := 4) hx hb dJ6_bitCount_0f7a4_26 (by decide) ?_
  refine lv_iushr (v := (jushr x2 4)) hx hb dJ6_bitCount_0f7a4_27 rfl ?_
  refine lv_iadd hx hb dJ6_bitCount_0f7a4_28 ?_
  refine lv_ldcw (v := 252645135) hx hb hown (hts (.constant RJ6 267 (252645135)) (by decide +kernel)) dJ6_bitCount_0f7a4_29 ?_
  refine lv_iand hx hb dJ6_bitCount_0f7a4_32 ?_
  refine lv_topi (fun x3 ex3 => ?_)
  replace h := h x3 ex3
  refine lv_istore_n (lv' := [(0, .int x3)]) hx hb dJ6_bitCount_0f7a4_33 rfl hl (by decide) rfl (fun ls hl => ?_)
  refine lv_iload_n hx hb dJ6_bitCount_0f7a4_34 rfl (lv_at hl 0 rfl) ?_
  refine lv_iload_n hx hb dJ6_bitCount_0f7a4_35 rfl (lv_at hl 0 rfl) ?_
  refine lv_bipush (v := 8) hx hb dJ6_bitCount_0f7a4_36 (by decide) ?_
  refine lv_iushr (v := (jushr x3 8)) hx hb dJ6_bitCount_0f7a4_38 rfl ?_
  refine lv_iadd hx hb dJ6_bitCount_0f7a4_39 ?_
  refine lv_topi (fun x4 ex4 => ?_)
  replace h := h x4 ex4
  refine lv_istore_n (lv' := [(0, .int x4)]) hx hb dJ6_bitCount_0f7a4_40 rfl hl (by decide) rfl (fun ls hl => ?_)
  refine lv_iload_n hx hb dJ6_bitCount_0f7a4_41 rfl (lv_at hl 0 rfl) ?_
  refine lv_iload_n hx hb dJ6_bitCount_0f7a4_42 rfl (lv_at hl 0 rfl) ?_
  refine lv_bipush (v := 16) hx hb dJ6_bitCount_0f7a4_43 (by decide) ?_
  refine lv_iushr (v := (jushr x4 16)) hx hb dJ6_bitCount_0f7a4_45 rfl ?_
  refine lv_iadd hx hb dJ6_bitCount_0f7a4_46 ?_
  refine lv_topi (fun x5 ex5 => ?_)
  replace h := h x5 ex5
  refine lv_istore_n (lv' := [(0, .int x5)]) hx hb dJ6_bitCount_0f7a4_47 rfl hl (by decide) rfl (fun ls hl => ?_)
  refine lv_iload_n hx hb dJ6_bitCount_0f7a4_48 rfl (lv_at hl 0 rfl) ?_
  refine lv_bipush (v := 63) hx hb dJ6_bitCount_0f7a4_49 (by decide) ?_
  refine lv_iand hx hb dJ6_bitCount_0f7a4_51 ?_
  exact W.iret (v := (x5 &&& 63)) hx hb hr (fun t ht hW => ⟨_, rfl, h, ht⟩) (fun _ h => by cases h) dJ6_bitCount_0f7a4_52

def wp_X3_sizeOf_j13 (Q : Int32 → Prop) (s0 : Int32) : Prop := Q s0
def wp_X3_sizeOf (p0 : Int32) (Q : Int32 → Prop) : Prop := (¬ p0 = (-1) → (wp_J6_bitCount_0f7a4 p0 fun (r2 : Int32) => wp_X3_sizeOf_j13 Q r2)) ∧ (p0 = (-1) → (wp_X3_sizeOf_j13 Q (-1)))
abbrev rmX3_sizeOf : Room := { frames := 1, cells := 0, slots := 0, locals := 20 }
set_option maxHeartbeats 4000000 in
set_option maxRecDepth 100000 in
theorem c_X3_sizeOf (l : Launch) (p0 : Int32) (Q : Int32 → Prop) (h : wp_X3_sizeOf p0 Q) : Met l yX3_sizeOf wsX3_sizeOf (rmX3_sizeOf) (va_Pc [.int p0] (fun U => nW U)) (vp_Si Q) 0 0 (fun _ => False) := by
  unfold wp_X3_sizeOf at h
  refine Met.ofW (cc := cX3_sizeOf) (maxL := 1) (ret := (some .int)) (by decide) rfl ?_
  intro p e s m args below meth c s₁ B hml hv
  obtain ⟨rfl, hN⟩ := hv
  have hx := B.exec
  have hb := B.bytes
  have hr := B.returns
  have hts := atoms_spec (ws := wsX3_sizeOf) B.pre
  have hown : s.vm.findClass RX3 = some m.cls := findClass_of_methodNamed B.named
  have hlocks := B.notSynchronized
  have w13 : ∀ (s0 : Int32), wp_X3_sizeOf_j13 Q s0 → ∀ (ls : Array Slot), lv_has ls 1 [] → W p l e (headSpec wsX3_sizeOf (rmX3_sizeOf)).room s m ([.int p0] : List Value).toArray below meth c s.heap [] 0 0 (MQ below (vp_Si Q) ([.int p0] : List Value).toArray s 0 0 (fun _ => False)) (F0 m 13 ls [.int s0]) := by
    intro s0 h ls hl
    unfold wp_X3_sizeOf_j13 at h
    exact W.iret (v := s0) hx hb hr (fun t ht hW => ⟨_, rfl, h, ht⟩) (fun _ h => by cases h) dX3_sizeOf_13
  have hl := lv_entry ([.int p0]) (n := 1) (Nat.le_of_ble_eq_true rfl)
  rw [lg_entry_eq]
  generalize (lg_sl ([.int p0]) ++ List.replicate (1 - (lg_sl ([.int p0])).length) Slot.unset).toArray = ls at hl ⊢
  have hl : lv_has ls 1 [(0, .int p0)] := hl
  refine lv_iload_n hx hb dX3_sizeOf_0 rfl (lv_at hl 0 rfl) ?_
  refine lv_iconst (v := (-1)) hx hb dX3_sizeOf_1 (by decide) ?_
  refine lv_icmp_ne (tgt := 9) hx hb dX3_sizeOf_2 (by decide) (fun c1 => ?_) (fun c1 => ?_)
  · replace h := h.1 c1
    refine lv_iload_n hx hb dX3_sizeOf_9 rfl (lv_at hl 0 rfl) ?_
    refine vs_calli (va_runS (As := [.int p0]) (rest := []) ⟨hx, hb, hml, hown, hts⟩ (c_J6_bitCount_0f7a4 l p0 _ h) (va_cwS 1 hts gX3_sizeOf_J6_bitCount_0f7a4 rfl rfl rfl (by decide +kernel) ⟨Nat.le_of_ble_eq_true rfl, Nat.le_of_ble_eq_true rfl⟩) ⟨fun a U g mk q => ⟨q.1, nW_call q.2⟩, fun U hU hW => ⟨rfl, nW_warm hW hN⟩⟩ rfl rfl hl.1 rfl (lv_room (Nat.le_of_ble_eq_true rfl)) dX3_sizeOf_10 ⟨Nat.le_of_ble_eq_true rfl, Nat.le_of_ble_eq_true rfl⟩) (fun r2 h => ?_)
    exact w13 r2 h ls (lv_sub hl [] rfl)
  · replace h := h.2 c1
    refine lv_iconst (v := (-1)) hx hb dX3_sizeOf_5 (by decide) ?_
    refine lv_goto (tgt := 13) hx hb dX3_sizeOf_6 (by decide) ?_
    exact w13 (-1) h ls (lv_sub hl [] rfl)

def wp_X6_inverted (p0 : Int32) (p1 : Int32) (Q : Int32 → Prop) : Prop := wp_X6_full p0 fun (r1 : Int32) => Q (r1 &&& (p1 ^^^ (-1)))
abbrev rmX6_inverted : Room := { frames := 1, cells := 0, slots := 0, locals := 20 }
set_option maxHeartbeats 4000000 in
set_option maxRecDepth 100000 in
theorem c_X6_inverted (l : Launch) (p0 : Int32) (p1 : Int32) (Q : Int32 → Prop) (h : wp_X6_inverted p0 p1 Q) : Met l yX6_inverted wsX6_inverted (rmX6_inverted) (va_Pc [.int p0, .int p1] (fun U => nW U)) (vp_Si Q) 0 0 (fun _ => False) := by
  unfold wp_X6_inverted at h
  refine Met.ofW (cc := cX6_inverted) (maxL := 2) (ret := (some .int)) (by decide) rfl ?_
  intro p e s m args below meth c s₁ B hml hv
  obtain ⟨rfl, hN⟩ := hv
  have hx := B.exec
  have hb := B.bytes
  have hr := B.returns
  have hts := atoms_spec (ws := wsX6_inverted) B.pre
  have hown : s.vm.findClass RX6 = some m.cls := findClass_of_methodNamed B.named
  have hlocks := B.notSynchronized
  have hl := lv_entry ([.int p0, .int p1]) (n := 2) (Nat.le_of_ble_eq_true rfl)
  rw [lg_entry_eq]
  generalize (lg_sl ([.int p0, .int p1]) ++ List.replicate (2 - (lg_sl ([.int p0, .int p1])).length) Slot.unset).toArray = ls at hl ⊢
  have hl : lv_has ls 2 [(0, .int p0), (1, .int p1)] := hl
  refine lv_iload_n hx hb dX6_inverted_0 rfl (lv_at hl 0 rfl) ?_
  refine vs_calli (va_runS (As := [.int p0]) (rest := []) ⟨hx, hb, hml, hown, hts⟩ (c_X6_full l p0 _ h) (va_cwS 1 hts gX6_inverted_X6_full rfl rfl rfl (by decide +kernel) ⟨Nat.le_of_ble_eq_true rfl, Nat.le_of_ble_eq_true rfl⟩) ⟨fun a U g mk q => ⟨q.1, nW_call q.2⟩, fun U hU hW => ⟨rfl, nW_warm hW hN⟩⟩ rfl rfl hl.1 rfl (lv_room (Nat.le_of_ble_eq_true rfl)) dX6_inverted_1 ⟨Nat.le_of_ble_eq_true rfl, Nat.le_of_ble_eq_true rfl⟩) (fun r1 h => ?_)
  refine lv_iload_n hx hb dX6_inverted_4 rfl (lv_at hl 1 rfl) ?_
  refine lv_iconst (v := (-1)) hx hb dX6_inverted_5 (by decide) ?_
  refine lv_ixor hx hb dX6_inverted_6 ?_
  refine lv_iand hx hb dX6_inverted_7 ?_
  exact W.iret (v := (r1 &&& (p1 ^^^ (-1)))) hx hb hr (fun t ht hW => ⟨_, rfl, h, ht⟩) (fun _ h => by cases h) dX6_inverted_8

def wp_J6_numberOfTrailingZeros_0f7a4_j74 (Q : Int32 → Prop) (l0 : Int32) (l1 : Int32) : Prop := Q (l1 + (jushr l0 1))
def wp_J6_numberOfTrailingZeros_0f7a4_j62 (Q : Int32 → Prop) (l0 : Int32) (l1 : Int32) : Prop := (l0 ≤ 4 → (wp_J6_numberOfTrailingZeros_0f7a4_j74 Q l0 l1)) ∧ (¬ l0 ≤ 4 → (∀ x2 : Int32, x2 = l1 + 2 → ∀ x3 : Int32, x3 = (jushr l0 2) → wp_J6_numberOfTrailingZeros_0f7a4_j74 Q x3 x2))
def wp_J6_numberOfTrailingZeros_0f7a4_j49 (Q : Int32 → Prop) (l0 : Int32) (l1 : Int32) : Prop := (l0 ≤ 16 → (wp_J6_numberOfTrailingZeros_0f7a4_j62 Q l0 l1)) ∧ (¬ l0 ≤ 16 → (∀ x5 : Int32, x5 = l1 + 4 → ∀ x6 : Int32, x6 = (jushr l0 4) → wp_J6_numberOfTrailingZeros_0f7a4_j62 Q x6 x5))
def wp_J6_numberOfTrailingZeros_0f7a4_j34 (Q : Int32 → Prop) (l0 : Int32) (l1 : Int32) : Prop := (l0 ≤ 256 → (wp_J6_numberOfTrailingZeros_0f7a4_j49 Q l0 l1)) ∧ (¬ l0 ≤ 256 → (∀ x8 : Int32, x8 = l1 + 8 → ∀ x9 : Int32, x9 = (jushr l0 8) → wp_J6_numberOfTrailingZeros_0f7a4_j49 Q x9 x8))
def wp_J6_numberOfTrailingZeros_0f7a4 (p0 : Int32) (Q : Int32 → Prop) : Prop := ∀ x10 : Int32, x10 = ((p0 ^^^ (-1)) &&& (p0 - 1)) → (0 < x10 → ((x10 ≤ 65536 → (wp_J6_numberOfTrailingZeros_0f7a4_j34 Q x10 1)) ∧ (¬ x10 ≤ 65536 → (∀ x13 : Int32, x13 = 1 + 16 → ∀ x14 : Int32, x14 = (jushr x10 16) → wp_J6_numberOfTrailingZeros_0f7a4_j34 Q x14 x13)))) ∧ (¬ 0 < x10 → (Q (x10 &&& 32)))
abbrev rmJ6_numberOfTrailingZeros_0f7a4 : Room := { frames := 0, cells := 0, slots := 0, locals := 0 }
set_option maxHeartbeats 4000000 in
set_option maxRecDepth 100000 in
theorem c_J6_numberOfTrailingZeros_0f7a4 (l : Launch) (p0 : Int32) (Q : Int32 → Prop) (h : wp_J6_numberOfTrailingZeros_0f7a4 p0 Q) : Met l yJ6_numberOfTrailingZeros_0f7a4 wsJ6_numberOfTrailingZeros_0f7a4 (rmJ6_numberOfTrailingZeros_0f7a4) (va_Pc [.int p0] (fun U => nW U)) (vp_Si Q) 0 0 (fun _ => False) := by
  unfold wp_J6_numberOfTrailingZeros_0f7a4 at h
  refine Met.ofW (cc := cJ6_numberOfTrailingZeros_0f7a4) (maxL := 2) (ret := (some .int)) (by decide) rfl ?_
  intro p e s m args below meth c s₁ B hml hv
  obtain ⟨rfl, hN⟩ := hv
  have hx := B.exec
  have hb := B.bytes
  have hr := B.returns
  have hts := atoms_spec (ws := wsJ6_numberOfTrailingZeros_0f7a4) B.pre
  have hown : s.vm.findClass RJ6 = some m.cls := findClass_of_methodNamed B.named
  have hlocks := B.notSynchronized
  have w74 : ∀ (l0 : Int32) (l1 : Int32), wp_J6_numberOfTrailingZeros_0f7a4_j74 Q l0 l1 → ∀ (ls : Array Slot), lv_has ls 2 [(0, .int l0), (1, .int l1)] → W p l e (headSpec wsJ6_numberOfTrailingZeros_0f7a4 (rmJ6_numberOfTrailingZeros_0f7a4)).room s m ([.int p0] : List Value).toArray below meth c s.heap [] 0 0 (MQ below (vp_Si Q) ([.int p0] : List Value).toArray s 0 0 (fun _ => False)) (F0 m 74 ls []) := by
    intro l0 l1 h ls hl
    unfold wp_J6_numberOfTrailingZeros_0f7a4_j74 at h
    refine lv_iload_n hx hb dJ6_numberOfTrailingZeros_0f7a4_74 rfl (lv_at hl 1 rfl) ?_
    refine lv_iload_n hx hb dJ6_numberOfTrailingZeros_0f7a4_75 rfl (lv_at hl 0 rfl) ?_
    refine lv_iconst (v := 1) hx hb dJ6_numberOfTrailingZeros_0f7a4_76 (by decide) ?_
    refine lv_iushr (v := (jushr l0 1)) hx hb dJ6_numberOfTrailingZeros_0f7a4_77 rfl ?_
    refine lv_iadd hx hb dJ6_numberOfTrailingZeros_0f7a4_78 ?_
    exact W.iret (v := (l1 + (jushr l0 1))) hx hb hr (fun t ht hW => ⟨_, rfl, h, ht⟩) (fun _ h => by cases h) dJ6_numberOfTrailingZeros_0f7a4_79
  have w62 : ∀ (l0 : Int32) (l1 : Int32), wp_J6_numberOfTrailingZeros_0f7a4_j62 Q l0 l1 → ∀ (ls : Array Slot), lv_has ls 2 [(0, .int l0), (1, .int l1)] → W p l e (headSpec wsJ6_numberOfTrailingZeros_0f7a4 (rmJ6_numberOfTrailingZeros_0f7a4)).room s m ([.int p0] : List Value).toArray below meth c s.heap [] 0 0 (MQ below (vp_Si Q) ([.int p0] : List Value).toArray s 0 0 (fun _ => False)) (F0 m 62 ls []) := by
    intro l0 l1 h ls hl
    unfold wp_J6_numberOfTrailingZeros_0f7a4_j62 at h
    refine lv_iload_n hx hb dJ6_numberOfTrailingZeros_0f7a4_62 rfl (lv_at hl 0 rfl) ?_
    refine lv_iconst (v := 4) hx hb dJ6_numberOfTrailingZeros_0f7a4_63 (by decide) ?_
    refine lv_icmp_le (tgt := 74) hx hb dJ6_numberOfTrailingZeros_0f7a4_64 (by decide) (fun c1 => ?_) (fun c1 => ?_)
    · replace h := h.1 c1
      exact w74 l0 l1 h ls (lv_sub hl [0, 1] rfl)
    · replace h := h.2 c1
      obtain ⟨x2, ex2⟩ : ∃ y : Int32, y = l1 + 2 := ⟨_, rfl⟩
      replace h := h x2 ex2
      refine lv_iinc (v := x2) (lv' := [(1, .int x2), (0, .int l0)]) hx hb dJ6_numberOfTrailingZeros_0f7a4_67 hl (k := 1) rfl (by rw [ex2]; rfl) (by decide) rfl (fun ls hl => ?_)
      refine lv_iload_n hx hb dJ6_numberOfTrailingZeros_0f7a4_70 rfl (lv_at hl 1 rfl) ?_
      refine lv_iconst (v := 2) hx hb dJ6_numberOfTrailingZeros_0f7a4_71 (by decide) ?_
      refine lv_iushr (v := (jushr l0 2)) hx hb dJ6_numberOfTrailingZeros_0f7a4_72 rfl ?_
      refine lv_topi (fun x3 ex3 => ?_)
      replace h := h x3 ex3
      refine lv_istore_n (lv' := [(0, .int x3), (1, .int x2)]) hx hb dJ6_numberOfTrailingZeros_0f7a4_73 rfl hl (by decide) rfl (fun ls hl => ?_)
      exact w74 x3 x2 h ls (lv_sub hl [0, 1] rfl)
  have w49 : ∀ (l0 : Int32) (l1 : Int32), wp_J6_numberOfTrailingZeros_0f7a4_j49 Q l0 l1 → ∀ (ls : Array Slot), lv_has ls 2 [(0, .int l0), (1, .int l1)] → W p l e (headSpec wsJ6_numberOfTrailingZeros_0f7a4 (rmJ6_numberOfTrailingZeros_0f7a4)).room s m ([.int p0] : List Value).toArray below meth c s.heap [] 0 0 (MQ below (vp_Si Q) ([.int p0] : List Value).toArray s 0 0 (fun _ => False)) (F0 m 49 ls []) := by
    intro l0 l1 h ls hl
    unfold wp_J6_numberOfTrailingZeros_0f7a4_j49 at h
    refine lv_iload_n hx hb dJ6_numberOfTrailingZeros_0f7a4_49 rfl (lv_at hl 0 rfl) ?_
    refine lv_bipush (v := 16) hx hb dJ6_numberOfTrailingZeros_0f7a4_50 (by decide) ?_
    refine lv_icmp_le (tgt := 62) hx hb dJ6_numberOfTrailingZeros_0f7a4_52 (by decide) (fun c4 => ?_) (fun c4 => ?_)
    · replace h := h.1 c4
      exact w62 l0 l1 h ls (lv_sub hl [0, 1] rfl)
    · replace h := h.2 c4
      obtain ⟨x5, ex5⟩ : ∃ y : Int32, y = l1 + 4 := ⟨_, rfl⟩
      replace h := h x5 ex5
      refine lv_iinc (v := x5) (lv' := [(1, .int x5), (0, .int l0)]) hx hb dJ6_numberOfTrailingZeros_0f7a4_55 hl (k := 1) rfl (by rw [ex5]; rfl) (by decide) rfl (fun ls hl => ?_)
      refine lv_iload_n hx hb dJ6_numberOfTrailingZeros_0f7a4_58 rfl (lv_at hl 1 rfl) ?_
      refine lv_iconst (v := 4) hx hb dJ6_numberOfTrailingZeros_0f7a4_59 (by decide) ?_
      refine lv_iushr (v := (jushr l0 4)) hx hb dJ6_numberOfTrailingZeros_0f7a4_60 rfl ?_
      refine lv_topi (fun x6 ex6 => ?_)
      replace h := h x6 ex6
      refine lv_istore_n (lv' := [(0, .int x6), (1, .int x5)]) hx hb dJ6_numberOfTrailingZeros_0f7a4_61 rfl hl (by decide) rfl (fun ls hl => ?_)
      exact w62 x6 x5 h ls (lv_sub hl [0, 1] rfl)
  have w34 : ∀ (l0 : Int32) (l1 : Int32), wp_J6_numberOfTrailingZeros_0f7a4_j34 Q l0 l1 → ∀ (ls : Array Slot), lv_has ls 2 [(0, .int l0), (1, .int l1)] → W p l e (headSpec wsJ6_numberOfTrailingZeros_0f7a4 (rmJ6_numberOfTrailingZeros_0f7a4)).room s m ([.int p0] : List Value).toArray below meth c s.heap [] 0 0 (MQ below (vp_Si Q) ([.int p0] : List Value).toArray s 0 0 (fun _ => False)) (F0 m 34 ls []) := by
    intro l0 l1 h ls hl
    unfold wp_J6_numberOfTrailingZeros_0f7a4_j34 at h
    refine lv_iload_n hx hb dJ6_numberOfTrailingZeros_0f7a4_34 rfl (lv_at hl 0 rfl) ?_
    refine lv_sipush (v := 256) hx hb dJ6_numberOfTrailingZeros_0f7a4_35 (by decide) ?_
    refine lv_icmp_le (tgt := 49) hx hb dJ6_numberOfTrailingZeros_0f7a4_38 (by decide) (fun c7 => ?_) (fun c7 => ?_)
    · replace h := h.1 c7
      exact w49 l0 l1 h ls (lv_sub hl [0, 1] rfl)
    · replace h := h.2 c7
      obtain ⟨x8, ex8⟩ : ∃ y : Int32, y = l1 + 8 := ⟨_, rfl⟩
      replace h := h x8 ex8
      refine lv_iinc (v := x8) (lv' := [(1, .int x8), (0, .int l0)]) hx hb dJ6_numberOfTrailingZeros_0f7a4_41 hl (k := 1) rfl (by rw [ex8]; rfl) (by decide) rfl (fun ls hl => ?_)
      refine lv_iload_n hx hb dJ6_numberOfTrailingZeros_0f7a4_44 rfl (lv_at hl 1 rfl) ?_
      refine lv_bipush (v := 8) hx hb dJ6_numberOfTrailingZeros_0f7a4_45 (by decide) ?_
      refine lv_iushr (v := (jushr l0 8)) hx hb dJ6_numberOfTrailingZeros_0f7a4_47 rfl ?_
      refine lv_topi (fun x9 ex9 => ?_)
      replace h := h x9 ex9
      refine lv_istore_n (lv' := [(0, .int x9), (1, .int x8)]) hx hb dJ6_numberOfTrailingZeros_0f7a4_48 rfl hl (by decide) rfl (fun ls hl => ?_)
      exact w49 x9 x8 h ls (lv_sub hl [0, 1] rfl)
  have hl := lv_entry ([.int p0]) (n := 2) (Nat.le_of_ble_eq_true rfl)
  rw [lg_entry_eq]
  generalize (lg_sl ([.int p0]) ++ List.replicate (2 - (lg_sl ([.int p0])).length) Slot.unset).toArray = ls at hl ⊢
  have hl : lv_has ls 2 [(0, .int p0)] := hl
  refine lv_iload_n hx hb dJ6_numberOfTrailingZeros_0f7a4_0 rfl (lv_at hl 0 rfl) ?_
  refine lv_iconst (v := (-1)) hx hb dJ6_numberOfTrailingZeros_0f7a4_1 (by decide) ?_
  refine lv_ixor hx hb dJ6_numberOfTrailingZeros_0f7a4_2 ?_
  refine lv_iload_n hx hb dJ6_numberOfTrailingZeros_0f7a4_3 rfl (lv_at hl 0 rfl) ?_
  refine lv_iconst (v := 1) hx hb dJ6_numberOfTrailingZeros_0f7a4_4 (by decide) ?_
  refine lv_isub hx hb dJ6_numberOfTrailingZeros_0f7a4_5 ?_
  refine lv_iand hx hb dJ6_numberOfTrailingZeros_0f7a4_6 ?_
  refine lv_topi (fun x10 ex10 => ?_)
  replace h := h x10 ex10
  refine lv_istore_n (lv' := [(0, .int x10)]) hx hb dJ6_numberOfTrailingZeros_0f7a4_7 rfl hl (by decide) rfl (fun ls hl => ?_)
  refine lv_iload_n hx hb dJ6_numberOfTrailingZeros_0f7a4_8 rfl (lv_at hl 0 rfl) ?_
  refine lv_if_gt (tgt := 17) hx hb dJ6_numberOfTrailingZeros_0f7a4_9 (by decide) (fun c11 => ?_) (fun c11 => ?_)
  · replace h := h.1 c11
    refine lv_iconst (v := 1) hx hb dJ6_numberOfTrailingZeros_0f7a4_17 (by decide) ?_
    refine lv_istore_n (lv' := [(1, .int 1), (0, .int x10)]) hx hb dJ6_numberOfTrailingZeros_0f7a4_18 rfl hl (by decide) rfl (fun ls hl => ?_)
    refine lv_iload_n hx hb dJ6_numberOfTrailingZeros_0f7a4_19 rfl (lv_at hl 1 rfl) ?_
    refine lv_ldcw (v := 65536) hx hb hown (hts (.constant RJ6 264 (65536)) (by decide +kernel)) dJ6_numberOfTrailingZeros_0f7a4_20 ?_
    refine lv_icmp_le (tgt := 34) hx hb dJ6_numberOfTrailingZeros_0f7a4_23 (by decide) (fun c12 => ?_) (fun c12 => ?_)
    · replace h := h.1 c12
      exact w34 x10 1 h ls (lv_sub hl [1, 0] rfl)
    · replace h := h.2 c12
      obtain ⟨x13, ex13⟩ : ∃ y : Int32, y = 1 + 16 := ⟨_, rfl⟩
      replace h := h x13 ex13
      refine lv_iinc (v := x13) (lv' := [(1, .int x13), (0, .int x10)]) hx hb dJ6_numberOfTrailingZeros_0f7a4_26 hl (k := 0) rfl (by rw [ex13]; rfl) (by decide) rfl (fun ls hl => ?_)
      refine lv_iload_n hx hb dJ6_numberOfTrailingZeros_0f7a4_29 rfl (lv_at hl 1 rfl) ?_
      refine lv_bipush (v := 16) hx hb dJ6_numberOfTrailingZeros_0f7a4_30 (by decide) ?_
      refine lv_iushr (v := (jushr x10 16)) hx hb dJ6_numberOfTrailingZeros_0f7a4_32 rfl ?_
      refine lv_topi (fun x14 ex14 => ?_)
      replace h := h x14 ex14
      refine lv_istore_n (lv' := [(0, .int x14), (1, .int x13)]) hx hb dJ6_numberOfTrailingZeros_0f7a4_33 rfl hl (by decide) rfl (fun ls hl => ?_)
      exact w34 x14 x13 h ls (lv_sub hl [0, 1] rfl)
  · replace h := h.2 c11
    refine lv_iload_n hx hb dJ6_numberOfTrailingZeros_0f7a4_12 rfl (lv_at hl 0 rfl) ?_
    refine lv_bipush (v := 32) hx hb dJ6_numberOfTrailingZeros_0f7a4_13 (by decide) ?_
    refine lv_iand hx hb dJ6_numberOfTrailingZeros_0f7a4_15 ?_
    exact W.iret (v := (x10 &&& 32)) hx hb hr (fun t ht hW => ⟨_, rfl, h, ht⟩) (fun _ h => by cases h) dJ6_numberOfTrailingZeros_0f7a4_16

def wp_X3_nextOfSize (p0 : Int32) (Q : Int32 → Prop) : Prop := (¬ p0 = 0 → (∀ x2 : Int32, x2 = (p0 + (p0 &&& (-p0))) → wp_J6_numberOfTrailingZeros_0f7a4 p0 fun (r3 : Int32) => Q (x2 ||| (jushr (p0 ^^^ x2) (2 + r3))))) ∧ (p0 = 0 → (Q 1073741824))
abbrev rmX3_nextOfSize : Room := { frames := 1, cells := 0, slots := 0, locals := 21 }
set_option maxHeartbeats 4000000 in
set_option maxRecDepth 100000 in
theorem c_X3_nextOfSize (l : Launch) (p0 : Int32) (Q : Int32 → Prop) (h : wp_X3_nextOfSize p0 Q) : Met l yX3_nextOfSize wsX3_nextOfSize (rmX3_nextOfSize) (va_Pc [.int p0] (fun U => nW U)) (vp_Si Q) 0 0 (fun _ => False) := by
  unfold wp_X3_nextOfSize at h
  refine Met.ofW (cc := cX3_nextOfSize) (maxL := 2) (ret := (some .int)) (by decide) rfl ?_
  intro p e s m args below meth c s₁ B hml hv
  obtain ⟨rfl, hN⟩ := hv
  have hx := B.exec
  have hb := B.bytes
  have hr := B.returns
  have hts := atoms_spec (ws := wsX3_nextOfSize) B.pre
  have hown : s.vm.findClass RX3 = some m.cls := findClass_of_methodNamed B.named
  have hlocks := B.notSynchronized
  have hl := lv_entry ([.int p0]) (n := 2) (Nat.le_of_ble_eq_true rfl)
  rw [lg_entry_eq]
  generalize (lg_sl ([.int p0]) ++ List.replicate (2 - (lg_sl ([.int p0])).length) Slot.unset).toArray = ls at hl ⊢
  have hl : lv_has ls 2 [(0, .int p0)] := hl
  refine lv_iload_n hx hb dX3_nextOfSize_0 rfl (lv_at hl 0 rfl) ?_
  refine lv_if_ne (tgt := 7) hx hb dX3_nextOfSize_1 (by decide) (fun c1 => ?_) (fun c1 => ?_)
  · replace h := h.1 c1
    refine lv_iload_n hx hb dX3_nextOfSize_7 rfl (lv_at hl 0 rfl) ?_
    refine lv_iload_n hx hb dX3_nextOfSize_8 rfl (lv_at hl 0 rfl) ?_
    refine lv_iload_n hx hb dX3_nextOfSize_9 rfl (lv_at hl 0 rfl) ?_
    refine lv_ineg hx hb dX3_nextOfSize_10 ?_
    refine lv_iand hx hb dX3_nextOfSize_11 ?_
    refine lv_iadd hx hb dX3_nextOfSize_12 ?_
    refine lv_topi (fun x2 ex2 => ?_)
    replace h := h x2 ex2
    refine lv_istore_n (lv' := [(1, .int x2), (0, .int p0)]) hx hb dX3_nextOfSize_13 rfl hl (by decide) rfl (fun ls hl => ?_)
    refine lv_iload_n hx hb dX3_nextOfSize_14 rfl (lv_at hl 0 rfl) ?_
    refine lv_iload_n hx hb dX3_nextOfSize_15 rfl (lv_at hl 1 rfl) ?_
    refine lv_iload_n hx hb dX3_nextOfSize_16 rfl (lv_at hl 0 rfl) ?_
    refine lv_ixor hx hb dX3_nextOfSize_17 ?_
    refine lv_iconst (v := 2) hx hb dX3_nextOfSize_18 (by decide) ?_
    refine lv_iload_n hx hb dX3_nextOfSize_19 rfl (lv_at hl 1 rfl) ?_
    refine vs_calli (va_runS (As := [.int p0]) (rest := [.int 2, .int (p0 ^^^ x2), .int x2]) ⟨hx, hb, hml, hown, hts⟩ (c_J6_numberOfTrailingZeros_0f7a4 l p0 _ h) (va_cwS 1 hts gX3_nextOfSize_J6_numberOfTrailingZeros_0f7a4 rfl rfl rfl (by decide +kernel) ⟨Nat.le_of_ble_eq_true rfl, Nat.le_of_ble_eq_true rfl⟩) ⟨fun a U g mk q => ⟨q.1, nW_call q.2⟩, fun U hU hW => ⟨rfl, nW_warm hW hN⟩⟩ rfl rfl hl.1 rfl (lv_room (Nat.le_of_ble_eq_true rfl)) dX3_nextOfSize_20 ⟨Nat.le_of_ble_eq_true rfl, Nat.le_of_ble_eq_true rfl⟩) (fun r3 h => ?_)
    refine lv_iadd hx hb dX3_nextOfSize_23 ?_
    refine lv_iushr (v := (jushr (p0 ^^^ x2) (2 + r3))) hx hb dX3_nextOfSize_24 rfl ?_
    refine lv_ior hx hb dX3_nextOfSize_25 ?_
    exact W.iret (v := (x2 ||| (jushr (p0 ^^^ x2) (2 + r3)))) hx hb hr (fun t ht hW => ⟨_, rfl, h, ht⟩) (fun _ h => by cases h) dX3_nextOfSize_26
  · replace h := h.2 c1
    refine lv_ldc (v := 1073741824) hx hb hown (hts (.constant RX3 51 (1073741824)) (by decide +kernel)) dX3_nextOfSize_4 ?_
    exact W.iret (v := 1073741824) hx hb hr (fun t ht hW => ⟨_, rfl, h, ht⟩) (fun _ h => by cases h) dX3_nextOfSize_6

def wp_X4_value_h4 (Q : Int32 → Prop) : Nat → Int32 → Int32 → Int32 → Int32 → Prop
  | 0, _, _, _, _ => False
  | z4 + 1, l0, l1, l2, l3 => (l0 ≤ l3 → (Q l2)) ∧ (¬ l0 ≤ l3 → (wp_X6_bit l1 l3 fun (r2 : Int32) => ∀ x3 : Int32, x3 = ((2 * l2) + r2) → ∀ x4 : Int32, x4 = l3 + 1 → (wp_X4_value_h4 Q z4) l0 l1 x3 x4))
def wp_X4_value (p0 : Int32) (p1 : Int32) (Q : Int32 → Prop) : Prop := ∃ k5 : Nat, wp_X4_value_h4 Q k5 p0 p1 0 0
abbrev rmX4_value : Room := { frames := 1, cells := 0, slots := 0, locals := 21 }
set_option maxHeartbeats 4000000 in
set_option maxRecDepth 100000 in
theorem c_X4_value (l : Launch) (p0 : Int32) (p1 : Int32) (Q : Int32 → Prop) (h : wp_X4_value p0 p1 Q) : Met l yX4_value wsX4_value (rmX4_value) (va_Pc [.int p0, .int p1] (fun U => nW U)) (vp_Si Q) 0 0 (fun _ => False) := by
  unfold wp_X4_value at h
  refine Met.ofW (cc := cX4_value) (maxL := 4) (ret := (some .int)) (by decide) rfl ?_
  intro p e s m args below meth c s₁ B hml hv
  obtain ⟨rfl, hN⟩ := hv
  have hx := B.exec
  have hb := B.bytes
  have hr := B.returns
  have hts := atoms_spec (ws := wsX4_value) B.pre
  have hown : s.vm.findClass RX4 = some m.cls := findClass_of_methodNamed B.named
  have hlocks := B.notSynchronized
  have w4 : ∀ (z4 : Nat) (l0 : Int32) (l1 : Int32) (l2 : Int32) (l3 : Int32), wp_X4_value_h4 Q z4 l0 l1 l2 l3 → ∀ (ls : Array Slot), lv_has ls 4 [(0, .int l0), (1, .int l1), (2, .int l2), (3, .int l3)] → W p l e (headSpec wsX4_value (rmX4_value)).room s m ([.int p0, .int p1] : List Value).toArray below meth c s.heap [] 0 0 (MQ below (vp_Si Q) ([.int p0, .int p1] : List Value).toArray s 0 0 (fun _ => False)) (F0 m 4 ls []) := by
    intro z4
    induction z4 with
    | zero => intro l0 l1 l2 l3 h; unfold wp_X4_value_h4 at h; exact h.elim
    | succ z4 k4 =>
      intro l0 l1 l2 l3 h ls hl
      unfold wp_X4_value_h4 at h
      refine lv_iload_n hx hb dX4_value_4 rfl (lv_at hl 3 rfl) ?_
      refine lv_iload_n hx hb dX4_value_5 rfl (lv_at hl 0 rfl) ?_
      refine lv_icmp_ge (tgt := 25) hx hb dX4_value_6 (by decide) (fun c1 => ?_) (fun c1 => ?_)
      · replace h := h.1 c1
        refine lv_iload_n hx hb dX4_value_25 rfl (lv_at hl 2 rfl) ?_
        exact W.iret (v := l2) hx hb hr (fun t ht hW => ⟨_, rfl, h, ht⟩) (fun _ h => by cases h) dX4_value_26
      · replace h := h.2 c1
        refine lv_iconst (v := 2) hx hb dX4_value_9 (by decide) ?_
        refine lv_iload_n hx hb dX4_value_10 rfl (lv_at hl 2 rfl) ?_
        refine lv_imul hx hb dX4_value_11 ?_
        refine lv_iload_n hx hb dX4_value_12 rfl (lv_at hl 1 rfl) ?_
        refine lv_iload_n hx hb dX4_value_13 rfl (lv_at hl 3 rfl) ?_
        refine vs_calli (va_runSN (As := [.int l1, .int l3]) (rest := [.int (2 * l2)]) ⟨hx, hb, hml, hown, hts⟩ (c_X6_bit l l1 l3 _ h) ⟨va_cnB 2 hts gX4_value_X6_bit_n9 rfl rfl rfl (nw_30 hN) (hts (.initialized RX6) (by decide +kernel)) (by decide +kernel) ⟨Nat.le_of_ble_eq_true rfl, Nat.le_of_ble_eq_true rfl⟩, hts (.static yX6_bit) (by decide +kernel), trivial⟩ ⟨fun a U g mk q => ⟨q.1, nW_call q.2⟩, fun U hU hW => ⟨rfl, nW_warm hW hN⟩⟩ rfl rfl hl.1 rfl (lv_room (Nat.le_of_ble_eq_true rfl)) dX4_value_14 ⟨Nat.le_of_ble_eq_true rfl, Nat.le_of_ble_eq_true rfl⟩) (fun r2 h => ?_)
        refine lv_iadd hx hb dX4_value_17 ?_
        refine lv_topi (fun x3 ex3 => ?_)
        replace h := h x3 ex3
        refine lv_istore_n (lv' := [(2, .int x3), (0, .int l0), (1, .int l1), (3, .int l3)]) hx hb dX4_value_18 rfl hl (by decide) rfl (fun ls hl => ?_)
        obtain ⟨x4, ex4⟩ : ∃ y : Int32, y = l3 + 1 := ⟨_, rfl⟩
        replace h := h x4 ex4
        refine lv_iinc (v := x4) (lv' := [(3, .int x4), (2, .int x3), (0, .int l0), (1, .int l1)]) hx hb dX4_value_19 hl (k := 3) rfl (by rw [ex4]; rfl) (by decide) rfl (fun ls hl => ?_)
        refine lv_goto (tgt := 4) hx hb dX4_value_22 (by decide) ?_
        exact k4 l0 l1 x3 x4 h ls (lv_sub hl [2, 3, 1, 0] rfl)
  have hl := lv_entry ([.int p0, .int p1]) (n := 4) (Nat.le_of_ble_eq_true rfl)
  rw [lg_entry_eq]
  generalize (lg_sl ([.int p0, .int p1]) ++ List.replicate (4 - (lg_sl ([.int p0, .int p1])).length) Slot.unset).toArray = ls at hl ⊢
  have hl : lv_has ls 4 [(0, .int p0), (1, .int p1)] := hl
  refine lv_iconst (v := 0) hx hb dX4_value_0 (by decide) ?_
  refine lv_istore_n (lv' := [(2, .int 0), (0, .int p0), (1, .int p1)]) hx hb dX4_value_1 rfl hl (by decide) rfl (fun ls hl => ?_)
  refine lv_iconst (v := 0) hx hb dX4_value_2 (by decide) ?_
  refine lv_istore_n (lv' := [(3, .int 0), (2, .int 0), (0, .int p0), (1, .int p1)]) hx hb dX4_value_3 rfl hl (by decide) rfl (fun ls hl => ?_)
  obtain ⟨k5, h⟩ := h
  exact w4 k5 p0 p1 0 0 h ls (lv_sub hl [2, 3, 1, 0] rfl)
