def wp_X10_in_j18 (Q : Int32 → Prop) (s0 : Int32) : Prop := isB s0 ∧ Q s0
def wp_X10_in_j17 (Q : Int32 → Prop)  : Prop := wp_X10_in_j18 Q 0
def wp_X10_in (p0 : Int64) (p2 : Int64) (p4 : Int64) (Q : Int32 → Prop) : Prop := ((lg_cmp p0 p2) < 0 → (wp_X10_in_j17 Q )) ∧ (¬ (lg_cmp p0 p2) < 0 → ((0 < (lg_cmp p0 p4) → (wp_X10_in_j17 Q )) ∧ (¬ 0 < (lg_cmp p0 p4) → (wp_X10_in_j18 Q 1))))
abbrev rmX10_in : Room := { frames := 0, cells := 0, slots := 0, locals := 0 }
set_option maxHeartbeats 4000000 in
set_option maxRecDepth 100000 in
theorem c_X10_in (l : Launch) (p0 : Int64) (p2 : Int64) (p4 : Int64) (Q : Int32 → Prop) (h : wp_X10_in p0 p2 p4 Q) : Met l yX10_in wsX10_in (rmX10_in) (va_Pc [.long p0, .long p2, .long p4] (fun U => nW U)) (vp_Si Q) 0 0 (fun _ => False) := by
  unfold wp_X10_in at h
  refine Met.ofW (cc := cX10_in) (maxL := 6) (ret := (some .boolean)) (by decide) rfl ?_
  intro p e s m args below meth c s₁ B hml hv
  obtain ⟨rfl, hN⟩ := hv
  have hx := B.exec
  have hb := B.bytes
  have hr := B.returns
  have hts := atoms_spec (ws := wsX10_in) B.pre
  have hown : s.vm.findClass RX10 = some m.cls := findClass_of_methodNamed B.named
  have hlocks := B.notSynchronized
  have w18 : ∀ (s0 : Int32), wp_X10_in_j18 Q s0 → ∀ (ls : Array Slot), lv_has ls 6 [] → W p l e (headSpec wsX10_in (rmX10_in)).room s m ([.long p0, .long p2, .long p4] : List Value).toArray below meth c s.heap [] 0 0 (MQ below (vp_Si Q) ([.long p0, .long p2, .long p4] : List Value).toArray s 0 0 (fun _ => False)) (F0 m 18 ls [.int s0]) := by
    intro s0 h ls hl
    unfold wp_X10_in_j18 at h
    have hz := h.1
    replace h := h.2
    exact W.zret (v := s0) hx hb hr hz (fun t ht hW => ⟨_, rfl, h, ht⟩) (fun _ h => by cases h) dX10_in_18
  have w17 : wp_X10_in_j17 Q → ∀ (ls : Array Slot), lv_has ls 6 [] → W p l e (headSpec wsX10_in (rmX10_in)).room s m ([.long p0, .long p2, .long p4] : List Value).toArray below meth c s.heap [] 0 0 (MQ below (vp_Si Q) ([.long p0, .long p2, .long p4] : List Value).toArray s 0 0 (fun _ => False)) (F0 m 17 ls []) := by
    intro  h ls hl
    unfold wp_X10_in_j17 at h
    refine lv_iconst (v := 0) hx hb dX10_in_17 (by decide) ?_
    exact w18 0 h ls (lv_sub hl [] rfl)
  have hl := lv_entry ([.long p0, .long p2, .long p4]) (n := 6) (Nat.le_of_ble_eq_true rfl)
  rw [lg_entry_eq]
  generalize (lg_sl ([.long p0, .long p2, .long p4]) ++ List.replicate (6 - (lg_sl ([.long p0, .long p2, .long p4])).length) Slot.unset).toArray = ls at hl ⊢
  have hl : lv_has ls 6 [(0, .long p0), (2, .long p2), (4, .long p4)] := hl
  refine lv_lload_n hx hb dX10_in_0 rfl (lv_at hl 0 rfl) ?_
  refine lv_lload_n hx hb dX10_in_1 rfl (lv_at hl 1 rfl) ?_
  refine W.lcmp hx hb dX10_in_2 ?_
  refine lv_if_lt (tgt := 17) hx hb dX10_in_3 (by decide) (fun c1 => ?_) (fun c1 => ?_)
  · replace h := h.1 c1
    exact w17  h ls (lv_sub hl [] rfl)
  · replace h := h.2 c1
    refine lv_lload_n hx hb dX10_in_6 rfl (lv_at hl 0 rfl) ?_
    refine lv_lload hx hb dX10_in_7 (lv_at hl 2 rfl) ?_
    refine W.lcmp hx hb dX10_in_9 ?_
    refine lv_if_gt (tgt := 17) hx hb dX10_in_10 (by decide) (fun c2 => ?_) (fun c2 => ?_)
    · replace h := h.1 c2
      exact w17  h ls (lv_sub hl [] rfl)
    · replace h := h.2 c2
      refine lv_iconst (v := 1) hx hb dX10_in_13 (by decide) ?_
      refine lv_goto (tgt := 18) hx hb dX10_in_14 (by decide) ?_
      exact w18 1 h ls (lv_sub hl [] rfl)

def wp_X10_has_j14 (Q : Int32 → Prop) (s0 : Int32) : Prop := isB s0 ∧ Q s0
def wp_X10_has (p0 : Int32) (p1 : Int32) (Q : Int32 → Prop) : Prop := (¬ ((p0 >>> (p1 &&& 31)) &&& 1) = 1 → (wp_X10_has_j14 Q 0)) ∧ (((p0 >>> (p1 &&& 31)) &&& 1) = 1 → (wp_X10_has_j14 Q 1))
abbrev rmX10_has : Room := { frames := 0, cells := 0, slots := 0, locals := 0 }
set_option maxHeartbeats 4000000 in
set_option maxRecDepth 100000 in
theorem c_X10_has (l : Launch) (p0 : Int32) (p1 : Int32) (Q : Int32 → Prop) (h : wp_X10_has p0 p1 Q) : Met l yX10_has wsX10_has (rmX10_has) (va_Pc [.int p0, .int p1] (fun U => nW U)) (vp_Si Q) 0 0 (fun _ => False) := by
  unfold wp_X10_has at h
  refine Met.ofW (cc := cX10_has) (maxL := 2) (ret := (some .boolean)) (by decide) rfl ?_
  intro p e s m args below meth c s₁ B hml hv
  obtain ⟨rfl, hN⟩ := hv
  have hx := B.exec
  have hb := B.bytes
  have hr := B.returns
  have hts := atoms_spec (ws := wsX10_has) B.pre
  have hown : s.vm.findClass RX10 = some m.cls := findClass_of_methodNamed B.named
  have hlocks := B.notSynchronized
  have w14 : ∀ (s0 : Int32), wp_X10_has_j14 Q s0 → ∀ (ls : Array Slot), lv_has ls 2 [] → W p l e (headSpec wsX10_has (rmX10_has)).room s m ([.int p0, .int p1] : List Value).toArray below meth c s.heap [] 0 0 (MQ below (vp_Si Q) ([.int p0, .int p1] : List Value).toArray s 0 0 (fun _ => False)) (F0 m 14 ls [.int s0]) := by
    intro s0 h ls hl
    unfold wp_X10_has_j14 at h
    have hz := h.1
    replace h := h.2
    exact W.zret (v := s0) hx hb hr hz (fun t ht hW => ⟨_, rfl, h, ht⟩) (fun _ h => by cases h) dX10_has_14
  have hl := lv_entry ([.int p0, .int p1]) (n := 2) (Nat.le_of_ble_eq_true rfl)
  rw [lg_entry_eq]
  generalize (lg_sl ([.int p0, .int p1]) ++ List.replicate (2 - (lg_sl ([.int p0, .int p1])).length) Slot.unset).toArray = ls at hl ⊢
  have hl : lv_has ls 2 [(0, .int p0), (1, .int p1)] := hl
  refine lv_iload_n hx hb dX10_has_0 rfl (lv_at hl 0 rfl) ?_
  refine lv_iload_n hx hb dX10_has_1 rfl (lv_at hl 1 rfl) ?_
  refine lv_ishr hx hb dX10_has_2 ?_
  refine lv_iconst (v := 1) hx hb dX10_has_3 (by decide) ?_
  refine lv_iand hx hb dX10_has_4 ?_
  refine lv_iconst (v := 1) hx hb dX10_has_5 (by decide) ?_
  refine lv_icmp_ne (tgt := 13) hx hb dX10_has_6 (by decide) (fun c1 => ?_) (fun c1 => ?_)
  · replace h := h.1 c1
    refine lv_iconst (v := 0) hx hb dX10_has_13 (by decide) ?_
    exact w14 0 h ls (lv_sub hl [] rfl)
  · replace h := h.2 c1
    refine lv_iconst (v := 1) hx hb dX10_has_9 (by decide) ?_
    refine lv_goto (tgt := 14) hx hb dX10_has_10 (by decide) ?_
    exact w14 1 h ls (lv_sub hl [] rfl)

def wp_X10_bits_h4 (Q : Int32 → Prop) : Nat → Int32 → Int32 → Prop
  | 0, _, _ => False
  | z4 + 1, l1, l2 => (l2 ≤ 0 → (Q l1)) ∧ (¬ l2 ≤ 0 → (∀ x2 : Int32, x2 = (l1 + (l2 &&& 1)) → ∀ x3 : Int32, x3 = (l2 >>> (1 &&& 31)) → (wp_X10_bits_h4 Q z4) x2 x3))
def wp_X10_bits (p0 : Int32) (Q : Int32 → Prop) : Prop := ∃ k4 : Nat, wp_X10_bits_h4 Q k4 0 p0
abbrev rmX10_bits : Room := { frames := 0, cells := 0, slots := 0, locals := 0 }
set_option maxHeartbeats 4000000 in
set_option maxRecDepth 100000 in
theorem c_X10_bits (l : Launch) (p0 : Int32) (Q : Int32 → Prop) (h : wp_X10_bits p0 Q) : Met l yX10_bits wsX10_bits (rmX10_bits) (va_Pc [.int p0] (fun U => nW U)) (vp_Si Q) 0 0 (fun _ => False) := by
  unfold wp_X10_bits at h
  refine Met.ofW (cc := cX10_bits) (maxL := 3) (ret := (some .int)) (by decide) rfl ?_
  intro p e s m args below meth c s₁ B hml hv
  obtain ⟨rfl, hN⟩ := hv
  have hx := B.exec
  have hb := B.bytes
  have hr := B.returns
  have hts := atoms_spec (ws := wsX10_bits) B.pre
  have hown : s.vm.findClass RX10 = some m.cls := findClass_of_methodNamed B.named
  have hlocks := B.notSynchronized
  have w4 : ∀ (z4 : Nat) (l1 : Int32) (l2 : Int32), wp_X10_bits_h4 Q z4 l1 l2 → ∀ (ls : Array Slot), lv_has ls 3 [(1, .int l1), (2, .int l2)] → W p l e (headSpec wsX10_bits (rmX10_bits)).room s m ([.int p0] : List Value).toArray below meth c s.heap [] 0 0 (MQ below (vp_Si Q) ([.int p0] : List Value).toArray s 0 0 (fun _ => False)) (F0 m 4 ls []) := by
    intro z4
    induction z4 with
    | zero => intro l1 l2 h; unfold wp_X10_bits_h4 at h; exact h.elim
    | succ z4 k4 =>
      intro l1 l2 h ls hl
      unfold wp_X10_bits_h4 at h
      refine lv_iload_n hx hb dX10_bits_4 rfl (lv_at hl 1 rfl) ?_
      refine lv_if_le (tgt := 21) hx hb dX10_bits_5 (by decide) (fun c1 => ?_) (fun c1 => ?_)
      · replace h := h.1 c1
        refine lv_iload_n hx hb dX10_bits_21 rfl (lv_at hl 0 rfl) ?_
        exact W.iret (v := l1) hx hb hr (fun t ht hW => ⟨_, rfl, h, ht⟩) (fun _ h => by cases h) dX10_bits_22
      · replace h := h.2 c1
        refine lv_iload_n hx hb dX10_bits_8 rfl (lv_at hl 0 rfl) ?_
        refine lv_iload_n hx hb dX10_bits_9 rfl (lv_at hl 1 rfl) ?_
        refine lv_iconst (v := 1) hx hb dX10_bits_10 (by decide) ?_
        refine lv_iand hx hb dX10_bits_11 ?_
        refine lv_iadd hx hb dX10_bits_12 ?_
        refine lv_topi (fun x2 ex2 => ?_)
        replace h := h x2 ex2
        refine lv_istore_n (lv' := [(1, .int x2), (2, .int l2)]) hx hb dX10_bits_13 rfl hl (by decide) rfl (fun ls hl => ?_)
        refine lv_iload_n hx hb dX10_bits_14 rfl (lv_at hl 1 rfl) ?_
        refine lv_iconst (v := 1) hx hb dX10_bits_15 (by decide) ?_
        refine lv_ishr hx hb dX10_bits_16 ?_
        refine lv_topi (fun x3 ex3 => ?_)
        replace h := h x3 ex3
        refine lv_istore_n (lv' := [(2, .int x3), (1, .int x2)]) hx hb dX10_bits_17 rfl hl (by decide) rfl (fun ls hl => ?_)
        refine lv_goto (tgt := 4) hx hb dX10_bits_18 (by decide) ?_
        exact k4 x2 x3 h ls (lv_sub hl [1, 0] rfl)
  have hl := lv_entry ([.int p0]) (n := 3) (Nat.le_of_ble_eq_true rfl)
  rw [lg_entry_eq]
  generalize (lg_sl ([.int p0]) ++ List.replicate (3 - (lg_sl ([.int p0])).length) Slot.unset).toArray = ls at hl ⊢
  have hl : lv_has ls 3 [(0, .int p0)] := hl
  refine lv_iconst (v := 0) hx hb dX10_bits_0 (by decide) ?_
  refine lv_istore_n (lv' := [(1, .int 0), (0, .int p0)]) hx hb dX10_bits_1 rfl hl (by decide) rfl (fun ls hl => ?_)
  refine lv_iload_n hx hb dX10_bits_2 rfl (lv_at hl 1 rfl) ?_
  refine lv_istore_n (lv' := [(2, .int p0), (1, .int 0), (0, .int p0)]) hx hb dX10_bits_3 rfl hl (by decide) rfl (fun ls hl => ?_)
  obtain ⟨k4, h⟩ := h
  exact w4 k4 0 p0 h ls (lv_sub hl [1, 0] rfl)

def wp_X10_full (p0 : Int32) (Q : Int32 → Prop) : Prop := Q ((1 <<< (p0 &&& 31)) - 1)
abbrev rmX10_full : Room := { frames := 0, cells := 0, slots := 0, locals := 0 }
set_option maxHeartbeats 4000000 in
set_option maxRecDepth 100000 in
theorem c_X10_full (l : Launch) (p0 : Int32) (Q : Int32 → Prop) (h : wp_X10_full p0 Q) : Met l yX10_full wsX10_full (rmX10_full) (va_Pc [.int p0] (fun U => nW U)) (vp_Si Q) 0 0 (fun _ => False) := by
  unfold wp_X10_full at h
  refine Met.ofW (cc := cX10_full) (maxL := 1) (ret := (some .int)) (by decide) rfl ?_
  intro p e s m args below meth c s₁ B hml hv
  obtain ⟨rfl, hN⟩ := hv
  have hx := B.exec
  have hb := B.bytes
  have hr := B.returns
  have hts := atoms_spec (ws := wsX10_full) B.pre
  have hown : s.vm.findClass RX10 = some m.cls := findClass_of_methodNamed B.named
  have hlocks := B.notSynchronized
  have hl := lv_entry ([.int p0]) (n := 1) (Nat.le_of_ble_eq_true rfl)
  rw [lg_entry_eq]
  generalize (lg_sl ([.int p0]) ++ List.replicate (1 - (lg_sl ([.int p0])).length) Slot.unset).toArray = ls at hl ⊢
  have hl : lv_has ls 1 [(0, .int p0)] := hl
  refine lv_iconst (v := 1) hx hb dX10_full_0 (by decide) ?_
  refine lv_iload_n hx hb dX10_full_1 rfl (lv_at hl 0 rfl) ?_
  refine lv_ishl hx hb dX10_full_2 ?_
  refine lv_iconst (v := 1) hx hb dX10_full_3 (by decide) ?_
  refine lv_isub hx hb dX10_full_4 ?_
  exact W.iret (v := ((1 <<< (p0 &&& 31)) - 1)) hx hb hr (fun t ht hW => ⟨_, rfl, h, ht⟩) (fun _ h => by cases h) dX10_full_5

def wp_X10_moved (p0 : Int32) (p1 : Int32) (p2 : Int32) (Q : Int32 → Prop) : Prop := (¬ (p2 : Int32) = 0) ∧ ∀ x1 : Int32, x1 = (p1 - p1 / p2 * p2) → wp_X10_full p2 fun (r2 : Int32) => Q (((p0 <<< (x1 &&& 31)) ||| (p0 >>> ((p2 - x1) &&& 31))) &&& r2)
abbrev rmX10_moved : Room := { frames := 1, cells := 0, slots := 0, locals := 20 }
set_option maxHeartbeats 4000000 in
set_option maxRecDepth 100000 in
theorem c_X10_moved (l : Launch) (p0 : Int32) (p1 : Int32) (p2 : Int32) (Q : Int32 → Prop) (h : wp_X10_moved p0 p1 p2 Q) : Met l yX10_moved wsX10_moved (rmX10_moved) (va_Pc [.int p0, .int p1, .int p2] (fun U => nW U)) (vp_Si Q) 0 0 (fun _ => False) := by
  unfold wp_X10_moved at h
  refine Met.ofW (cc := cX10_moved) (maxL := 4) (ret := (some .int)) (by decide) rfl ?_
  intro p e s m args below meth c s₁ B hml hv
  obtain ⟨rfl, hN⟩ := hv
  have hx := B.exec
  have hb := B.bytes
  have hr := B.returns
  have hts := atoms_spec (ws := wsX10_moved) B.pre
  have hown : s.vm.findClass RX10 = some m.cls := findClass_of_methodNamed B.named
  have hlocks := B.notSynchronized
  have hl := lv_entry ([.int p0, .int p1, .int p2]) (n := 4) (Nat.le_of_ble_eq_true rfl)
  rw [lg_entry_eq]
  generalize (lg_sl ([.int p0, .int p1, .int p2]) ++ List.replicate (4 - (lg_sl ([.int p0, .int p1, .int p2])).length) Slot.unset).toArray = ls at hl ⊢
  have hl : lv_has ls 4 [(0, .int p0), (1, .int p1), (2, .int p2)] := hl
  refine lv_iload_n hx hb dX10_moved_0 rfl (lv_at hl 1 rfl) ?_
  refine lv_iload_n hx hb dX10_moved_1 rfl (lv_at hl 2 rfl) ?_
  refine lv_irem hx hb dX10_moved_2 h.1 ?_
  replace h := h.2
  refine lv_topi (fun x1 ex1 => ?_)
  replace h := h x1 ex1
  refine lv_istore_n (lv' := [(3, .int x1), (0, .int p0), (1, .int p1), (2, .int p2)]) hx hb dX10_moved_3 rfl hl (by decide) rfl (fun ls hl => ?_)
  refine lv_iload_n hx hb dX10_moved_4 rfl (lv_at hl 1 rfl) ?_
  refine lv_iload_n hx hb dX10_moved_5 rfl (lv_at hl 0 rfl) ?_
  refine lv_ishl hx hb dX10_moved_6 ?_
  refine lv_iload_n hx hb dX10_moved_7 rfl (lv_at hl 1 rfl) ?_
  refine lv_iload_n hx hb dX10_moved_8 rfl (lv_at hl 3 rfl) ?_
  refine lv_iload_n hx hb dX10_moved_9 rfl (lv_at hl 0 rfl) ?_
  refine lv_isub hx hb dX10_moved_10 ?_
  refine lv_ishr hx hb dX10_moved_11 ?_
  refine lv_ior hx hb dX10_moved_12 ?_
  refine lv_iload_n hx hb dX10_moved_13 rfl (lv_at hl 3 rfl) ?_
  refine vs_calli (va_runS (As := [.int p2]) (rest := [.int ((p0 <<< (x1 &&& 31)) ||| (p0 >>> ((p2 - x1) &&& 31)))]) ⟨hx, hb, hml, hown, hts⟩ (c_X10_full l p2 _ h) (va_cwS 1 hts gX10_moved_X10_full rfl rfl rfl (by decide +kernel) ⟨Nat.le_of_ble_eq_true rfl, Nat.le_of_ble_eq_true rfl⟩) ⟨fun a U g mk q => ⟨q.1, nW_call q.2⟩, fun U hU hW => ⟨rfl, nW_warm hW hN⟩⟩ rfl rfl hl.1 rfl (lv_room (Nat.le_of_ble_eq_true rfl)) dX10_moved_14 ⟨Nat.le_of_ble_eq_true rfl, Nat.le_of_ble_eq_true rfl⟩) (fun r2 h => ?_)
  refine lv_iand hx hb dX10_moved_17 ?_
  exact W.iret (v := (((p0 <<< (x1 &&& 31)) ||| (p0 >>> ((p2 - x1) &&& 31))) &&& r2)) hx hb hr (fun t ht hW => ⟨_, rfl, h, ht⟩) (fun _ h => by cases h) dX10_moved_18

def wp_X10_behindOf_j29 (L4 : Int32 → Int32 → Int32 → Int32 → Prop) (Q : Int32 → Prop) (l0 : Int32) (l1 : Int32) (l3 : Int32) (s0 : Int32) (s1 : Int32) : Prop := ∀ x1 : Int32, x1 = (s0 ||| s1) → ∀ x2 : Int32, x2 = l3 + 1 → L4 l0 l1 x1 x2
def wp_X10_behindOf_h4 (Q : Int32 → Prop) : Nat → Int32 → Int32 → Int32 → Int32 → Prop
  | 0, _, _, _, _ => False
  | z4 + 1, l0, l1, l2, l3 => (l1 ≤ l3 → (Q l2)) ∧ (¬ l1 ≤ l3 → (wp_X10_has l0 l3 fun (r4 : Int32) => (r4 = 0 → (wp_X10_behindOf_j29 (wp_X10_behindOf_h4 Q z4) Q l0 l1 l3 l2 0)) ∧ (¬ r4 = 0 → ((¬ (l1 : Int32) = 0) ∧ wp_X10_behindOf_j29 (wp_X10_behindOf_h4 Q z4) Q l0 l1 l3 l2 (1 <<< (((l1 - l3) - (l1 - l3) / l1 * l1) &&& 31))))))
def wp_X10_behindOf (p0 : Int32) (p1 : Int32) (Q : Int32 → Prop) : Prop := ∃ k6 : Nat, wp_X10_behindOf_h4 Q k6 p0 p1 0 0
abbrev rmX10_behindOf : Room := { frames := 1, cells := 0, slots := 0, locals := 21 }
set_option maxHeartbeats 4000000 in
set_option maxRecDepth 100000 in
theorem c_X10_behindOf (l : Launch) (p0 : Int32) (p1 : Int32) (Q : Int32 → Prop) (h : wp_X10_behindOf p0 p1 Q) : Met l yX10_behindOf wsX10_behindOf (rmX10_behindOf) (va_Pc [.int p0, .int p1] (fun U => nW U)) (vp_Si Q) 0 0 (fun _ => False) := by
  unfold wp_X10_behindOf at h
  refine Met.ofW (cc := cX10_behindOf) (maxL := 4) (ret := (some .int)) (by decide) rfl ?_
  intro p e s m args below meth c s₁ B hml hv
  obtain ⟨rfl, hN⟩ := hv
  have hx := B.exec
  have hb := B.bytes
  have hr := B.returns
  have hts := atoms_spec (ws := wsX10_behindOf) B.pre
  have hown : s.vm.findClass RX10 = some m.cls := findClass_of_methodNamed B.named
  have hlocks := B.notSynchronized
  have w4 : ∀ (z4 : Nat) (l0 : Int32) (l1 : Int32) (l2 : Int32) (l3 : Int32), wp_X10_behindOf_h4 Q z4 l0 l1 l2 l3 → ∀ (ls : Array Slot), lv_has ls 4 [(0, .int l0), (1, .int l1), (2, .int l2), (3, .int l3)] → W p l e (headSpec wsX10_behindOf (rmX10_behindOf)).room s m ([.int p0, .int p1] : List Value).toArray below meth c s.heap [] 0 0 (MQ below (vp_Si Q) ([.int p0, .int p1] : List Value).toArray s 0 0 (fun _ => False)) (F0 m 4 ls []) := by
    intro z4
    induction z4 with
    | zero => intro l0 l1 l2 l3 h; unfold wp_X10_behindOf_h4 at h; exact h.elim
    | succ z4 k4 =>
      have w29 : ∀ (l0 : Int32) (l1 : Int32) (l3 : Int32) (s0 : Int32) (s1 : Int32), wp_X10_behindOf_j29 (wp_X10_behindOf_h4 Q z4) Q l0 l1 l3 s0 s1 → ∀ (ls : Array Slot), lv_has ls 4 [(0, .int l0), (1, .int l1), (3, .int l3)] → W p l e (headSpec wsX10_behindOf (rmX10_behindOf)).room s m ([.int p0, .int p1] : List Value).toArray below meth c s.heap [] 0 0 (MQ below (vp_Si Q) ([.int p0, .int p1] : List Value).toArray s 0 0 (fun _ => False)) (F0 m 29 ls [.int s1, .int s0]) := by
        intro l0 l1 l3 s0 s1 h ls hl
        unfold wp_X10_behindOf_j29 at h
        refine lv_ior hx hb dX10_behindOf_29 ?_
        refine lv_topi (fun x1 ex1 => ?_)
        replace h := h x1 ex1
        refine lv_istore_n (lv' := [(2, .int x1), (0, .int l0), (1, .int l1), (3, .int l3)]) hx hb dX10_behindOf_30 rfl hl (by decide) rfl (fun ls hl => ?_)
        obtain ⟨x2, ex2⟩ : ∃ y : Int32, y = l3 + 1 := ⟨_, rfl⟩
        replace h := h x2 ex2
        refine lv_iinc (v := x2) (lv' := [(3, .int x2), (2, .int x1), (0, .int l0), (1, .int l1)]) hx hb dX10_behindOf_31 hl (k := 3) rfl (by rw [ex2]; rfl) (by decide) rfl (fun ls hl => ?_)
        refine lv_goto (tgt := 4) hx hb dX10_behindOf_34 (by decide) ?_
        exact k4 l0 l1 x1 x2 h ls (lv_sub hl [2, 3, 1, 0] rfl)
      intro l0 l1 l2 l3 h ls hl
      unfold wp_X10_behindOf_h4 at h
      refine lv_iload_n hx hb dX10_behindOf_4 rfl (lv_at hl 3 rfl) ?_
      refine lv_iload_n hx hb dX10_behindOf_5 rfl (lv_at hl 1 rfl) ?_
      refine lv_icmp_ge (tgt := 37) hx hb dX10_behindOf_6 (by decide) (fun c3 => ?_) (fun c3 => ?_)
      · replace h := h.1 c3
        refine lv_iload_n hx hb dX10_behindOf_37 rfl (lv_at hl 2 rfl) ?_
        exact W.iret (v := l2) hx hb hr (fun t ht hW => ⟨_, rfl, h, ht⟩) (fun _ h => by cases h) dX10_behindOf_38
      · replace h := h.2 c3
        refine lv_iload_n hx hb dX10_behindOf_9 rfl (lv_at hl 2 rfl) ?_
        refine lv_iload_n hx hb dX10_behindOf_10 rfl (lv_at hl 0 rfl) ?_
        refine lv_iload_n hx hb dX10_behindOf_11 rfl (lv_at hl 3 rfl) ?_
        refine vs_calli (va_runS (As := [.int l0, .int l3]) (rest := [.int l2]) ⟨hx, hb, hml, hown, hts⟩ (c_X10_has l l0 l3 _ h) (va_cwS 2 hts gX10_behindOf_X10_has rfl rfl rfl (by decide +kernel) ⟨Nat.le_of_ble_eq_true rfl, Nat.le_of_ble_eq_true rfl⟩) ⟨fun a U g mk q => ⟨q.1, nW_call q.2⟩, fun U hU hW => ⟨rfl, nW_warm hW hN⟩⟩ rfl rfl hl.1 rfl (lv_room (Nat.le_of_ble_eq_true rfl)) dX10_behindOf_12 ⟨Nat.le_of_ble_eq_true rfl, Nat.le_of_ble_eq_true rfl⟩) (fun r4 h => ?_)
        refine lv_if_eq (tgt := 28) hx hb dX10_behindOf_15 (by decide) (fun c5 => ?_) (fun c5 => ?_)
        · replace h := h.1 c5
          refine lv_iconst (v := 0) hx hb dX10_behindOf_28 (by decide) ?_
          exact w29 l0 l1 l3 l2 0 h ls (lv_sub hl [0, 1, 3] rfl)
        · replace h := h.2 c5
          refine lv_iconst (v := 1) hx hb dX10_behindOf_18 (by decide) ?_
          refine lv_iload_n hx hb dX10_behindOf_19 rfl (lv_at hl 1 rfl) ?_
          refine lv_iload_n hx hb dX10_behindOf_20 rfl (lv_at hl 3 rfl) ?_
          refine lv_isub hx hb dX10_behindOf_21 ?_
          refine lv_iload_n hx hb dX10_behindOf_22 rfl (lv_at hl 1 rfl) ?_
          refine lv_irem hx hb dX10_behindOf_23 h.1 ?_
          replace h := h.2
          refine lv_ishl hx hb dX10_behindOf_24 ?_
          refine lv_goto (tgt := 29) hx hb dX10_behindOf_25 (by decide) ?_
          exact w29 l0 l1 l3 l2 (1 <<< (((l1 - l3) - (l1 - l3) / l1 * l1) &&& 31)) h ls (lv_sub hl [0, 1, 3] rfl)
  have hl := lv_entry ([.int p0, .int p1]) (n := 4) (Nat.le_of_ble_eq_true rfl)
  rw [lg_entry_eq]
  generalize (lg_sl ([.int p0, .int p1]) ++ List.replicate (4 - (lg_sl ([.int p0, .int p1])).length) Slot.unset).toArray = ls at hl ⊢
  have hl : lv_has ls 4 [(0, .int p0), (1, .int p1)] := hl
  refine lv_iconst (v := 0) hx hb dX10_behindOf_0 (by decide) ?_
  refine lv_istore_n (lv' := [(2, .int 0), (0, .int p0), (1, .int p1)]) hx hb dX10_behindOf_1 rfl hl (by decide) rfl (fun ls hl => ?_)
  refine lv_iconst (v := 0) hx hb dX10_behindOf_2 (by decide) ?_
  refine lv_istore_n (lv' := [(3, .int 0), (2, .int 0), (0, .int p0), (1, .int p1)]) hx hb dX10_behindOf_3 rfl hl (by decide) rfl (fun ls hl => ?_)
  obtain ⟨k6, h⟩ := h
  exact w4 k6 p0 p1 0 0 h ls (lv_sub hl [2, 3, 1, 0] rfl)

def wp_X10_evenOf_j26 (L4 : Int32 → Int32 → Int32 → Int32 → Prop) (Q : Int32 → Prop) (l0 : Int32) (l1 : Int32) (l3 : Int32) (s0 : Int32) (s1 : Int32) : Prop := ∀ x1 : Int32, x1 = (s0 ||| s1) → ∀ x2 : Int32, x2 = l3 + 1 → L4 l0 l1 x1 x2
def wp_X10_evenOf_h4 (Q : Int32 → Prop) : Nat → Int32 → Int32 → Int32 → Int32 → Prop
  | 0, _, _, _, _ => False
  | z4 + 1, l0, l1, l2, l3 => (l1 ≤ l3 → (Q l2)) ∧ (¬ l1 ≤ l3 → ((¬ (l1 : Int32) = 0) ∧ (l0 ≤ ((l3 * l0) - (l3 * l0) / l1 * l1) → (wp_X10_evenOf_j26 (wp_X10_evenOf_h4 Q z4) Q l0 l1 l3 l2 0)) ∧ (¬ l0 ≤ ((l3 * l0) - (l3 * l0) / l1 * l1) → (wp_X10_evenOf_j26 (wp_X10_evenOf_h4 Q z4) Q l0 l1 l3 l2 (1 <<< (l3 &&& 31))))))
def wp_X10_evenOf (p0 : Int32) (p1 : Int32) (Q : Int32 → Prop) : Prop := ∃ k5 : Nat, wp_X10_evenOf_h4 Q k5 p0 p1 0 0
abbrev rmX10_evenOf : Room := { frames := 0, cells := 0, slots := 0, locals := 0 }
set_option maxHeartbeats 4000000 in
set_option maxRecDepth 100000 in
theorem c_X10_evenOf (l : Launch) (p0 : Int32) (p1 : Int32) (Q : Int32 → Prop) (h : wp_X10_evenOf p0 p1 Q) : Met l yX10_evenOf wsX10_evenOf (rmX10_evenOf) (va_Pc [.int p0, .int p1] (fun U => nW U)) (vp_Si Q) 0 0 (fun _ => False) := by
  unfold wp_X10_evenOf at h
  refine Met.ofW (cc := cX10_evenOf) (maxL := 4) (ret := (some .int)) (by decide) rfl ?_
  intro p e s m args below meth c s₁ B hml hv
  obtain ⟨rfl, hN⟩ := hv
  have hx := B.exec
  have hb := B.bytes
  have hr := B.returns
  have hts := atoms_spec (ws := wsX10_evenOf) B.pre
  have hown : s.vm.findClass RX10 = some m.cls := findClass_of_methodNamed B.named
  have hlocks := B.notSynchronized
  have w4 : ∀ (z4 : Nat) (l0 : Int32) (l1 : Int32) (l2 : Int32) (l3 : Int32), wp_X10_evenOf_h4 Q z4 l0 l1 l2 l3 → ∀ (ls : Array Slot), lv_has ls 4 [(0, .int l0), (1, .int l1), (2, .int l2), (3, .int l3)] → W p l e (headSpec wsX10_evenOf (rmX10_evenOf)).room s m ([.int p0, .int p1] : List Value).toArray below meth c s.heap [] 0 0 (MQ below (vp_Si Q) ([.int p0, .int p1] : List Value).toArray s 0 0 (fun _ => False)) (F0 m 4 ls []) := by
    intro z4
    induction z4 with
    | zero => intro l0 l1 l2 l3 h; unfold wp_X10_evenOf_h4 at h; exact h.elim
    | succ z4 k4 =>
      have w26 : ∀ (l0 : Int32) (l1 : Int32) (l3 : Int32) (s0 : Int32) (s1 : Int32), wp_X10_evenOf_j26 (wp_X10_evenOf_h4 Q z4) Q l0 l1 l3 s0 s1 → ∀ (ls : Array Slot), lv_has ls 4 [(0, .int l0), (1, .int l1), (3, .int l3)] → W p l e (headSpec wsX10_evenOf (rmX10_evenOf)).room s m ([.int p0, .int p1] : List Value).toArray below meth c s.heap [] 0 0 (MQ below (vp_Si Q) ([.int p0, .int p1] : List Value).toArray s 0 0 (fun _ => False)) (F0 m 26 ls [.int s1, .int s0]) := by
        intro l0 l1 l3 s0 s1 h ls hl
        unfold wp_X10_evenOf_j26 at h
        refine lv_ior hx hb dX10_evenOf_26 ?_
        refine lv_topi (fun x1 ex1 => ?_)
        replace h := h x1 ex1
        refine lv_istore_n (lv' := [(2, .int x1), (0, .int l0), (1, .int l1), (3, .int l3)]) hx hb dX10_evenOf_27 rfl hl (by decide) rfl (fun ls hl => ?_)
        obtain ⟨x2, ex2⟩ : ∃ y : Int32, y = l3 + 1 := ⟨_, rfl⟩
        replace h := h x2 ex2
        refine lv_iinc (v := x2) (lv' := [(3, .int x2), (2, .int x1), (0, .int l0), (1, .int l1)]) hx hb dX10_evenOf_28 hl (k := 3) rfl (by rw [ex2]; rfl) (by decide) rfl (fun ls hl => ?_)
        refine lv_goto (tgt := 4) hx hb dX10_evenOf_31 (by decide) ?_
        exact k4 l0 l1 x1 x2 h ls (lv_sub hl [2, 3, 1, 0] rfl)
      intro l0 l1 l2 l3 h ls hl
      unfold wp_X10_evenOf_h4 at h
      refine lv_iload_n hx hb dX10_evenOf_4 rfl (lv_at hl 3 rfl) ?_
      refine lv_iload_n hx hb dX10_evenOf_5 rfl (lv_at hl 1 rfl) ?_
      refine lv_icmp_ge (tgt := 34) hx hb dX10_evenOf_6 (by decide) (fun c3 => ?_) (fun c3 => ?_)
      · replace h := h.1 c3
        refine lv_iload_n hx hb dX10_evenOf_34 rfl (lv_at hl 2 rfl) ?_
        exact W.iret (v := l2) hx hb hr (fun t ht hW => ⟨_, rfl, h, ht⟩) (fun _ h => by cases h) dX10_evenOf_35
      · replace h := h.2 c3
        refine lv_iload_n hx hb dX10_evenOf_9 rfl (lv_at hl 2 rfl) ?_
        refine lv_iload_n hx hb dX10_evenOf_10 rfl (lv_at hl 3 rfl) ?_
        refine lv_iload_n hx hb dX10_evenOf_11 rfl (lv_at hl 0 rfl) ?_
        refine lv_imul hx hb dX10_evenOf_12 ?_
        refine lv_iload_n hx hb dX10_evenOf_13 rfl (lv_at hl 1 rfl) ?_
        refine lv_irem hx hb dX10_evenOf_14 h.1 ?_
        replace h := h.2
        refine lv_iload_n hx hb dX10_evenOf_15 rfl (lv_at hl 0 rfl) ?_
        refine lv_icmp_ge (tgt := 25) hx hb dX10_evenOf_16 (by decide) (fun c4 => ?_) (fun c4 => ?_)
        · replace h := h.1 c4
          refine lv_iconst (v := 0) hx hb dX10_evenOf_25 (by decide) ?_
          exact w26 l0 l1 l3 l2 0 h ls (lv_sub hl [0, 1, 3] rfl)
        · replace h := h.2 c4
          refine lv_iconst (v := 1) hx hb dX10_evenOf_19 (by decide) ?_
          refine lv_iload_n hx hb dX10_evenOf_20 rfl (lv_at hl 3 rfl) ?_
          refine lv_ishl hx hb dX10_evenOf_21 ?_
          refine lv_goto (tgt := 26) hx hb dX10_evenOf_22 (by decide) ?_
          exact w26 l0 l1 l3 l2 (1 <<< (l3 &&& 31)) h ls (lv_sub hl [0, 1, 3] rfl)
  have hl := lv_entry ([.int p0, .int p1]) (n := 4) (Nat.le_of_ble_eq_true rfl)
  rw [lg_entry_eq]
  generalize (lg_sl ([.int p0, .int p1]) ++ List.replicate (4 - (lg_sl ([.int p0, .int p1])).length) Slot.unset).toArray = ls at hl ⊢
  have hl : lv_has ls 4 [(0, .int p0), (1, .int p1)] := hl
  refine lv_iconst (v := 0) hx hb dX10_evenOf_0 (by decide) ?_
  refine lv_istore_n (lv' := [(2, .int 0), (0, .int p0), (1, .int p1)]) hx hb dX10_evenOf_1 rfl hl (by decide) rfl (fun ls hl => ?_)
  refine lv_iconst (v := 0) hx hb dX10_evenOf_2 (by decide) ?_
  refine lv_istore_n (lv' := [(3, .int 0), (2, .int 0), (0, .int p0), (1, .int p1)]) hx hb dX10_evenOf_3 rfl hl (by decide) rfl (fun ls hl => ?_)
  obtain ⟨k5, h⟩ := h
  exact w4 k5 p0 p1 0 0 h ls (lv_sub hl [2, 3, 1, 0] rfl)

def wp_X10_periodOf_h2 (Q : Int32 → Prop) : Nat → Int32 → Int32 → Int32 → Prop
  | 0, _, _, _ => False
  | z2 + 1, l0, l1, l2 => wp_X10_moved l0 l2 l1 fun (r1 : Int32) => (r1 = l0 → (Q l2)) ∧ (¬ r1 = l0 → (∀ x3 : Int32, x3 = l2 + 1 → (wp_X10_periodOf_h2 Q z2) l0 l1 x3))
def wp_X10_periodOf (p0 : Int32) (p1 : Int32) (Q : Int32 → Prop) : Prop := ∃ k4 : Nat, wp_X10_periodOf_h2 Q k4 p0 p1 1
abbrev rmX10_periodOf : Room := { frames := 2, cells := 0, slots := 0, locals := 43 }
set_option maxHeartbeats 4000000 in
set_option maxRecDepth 100000 in
theorem c_X10_periodOf (l : Launch) (p0 : Int32) (p1 : Int32) (Q : Int32 → Prop) (h : wp_X10_periodOf p0 p1 Q) : Met l yX10_periodOf wsX10_periodOf (rmX10_periodOf) (va_Pc [.int p0, .int p1] (fun U => nW U)) (vp_Si Q) 0 0 (fun _ => False) := by
  unfold wp_X10_periodOf at h
  refine Met.ofW (cc := cX10_periodOf) (maxL := 3) (ret := (some .int)) (by decide) rfl ?_
  intro p e s m args below meth c s₁ B hml hv
  obtain ⟨rfl, hN⟩ := hv
  have hx := B.exec
  have hb := B.bytes
  have hr := B.returns
  have hts := atoms_spec (ws := wsX10_periodOf) B.pre
  have hown : s.vm.findClass RX10 = some m.cls := findClass_of_methodNamed B.named
  have hlocks := B.notSynchronized
  have w2 : ∀ (z2 : Nat) (l0 : Int32) (l1 : Int32) (l2 : Int32), wp_X10_periodOf_h2 Q z2 l0 l1 l2 → ∀ (ls : Array Slot), lv_has ls 3 [(0, .int l0), (1, .int l1), (2, .int l2)] → W p l e (headSpec wsX10_periodOf (rmX10_periodOf)).room s m ([.int p0, .int p1] : List Value).toArray below meth c s.heap [] 0 0 (MQ below (vp_Si Q) ([.int p0, .int p1] : List Value).toArray s 0 0 (fun _ => False)) (F0 m 2 ls []) := by
    intro z2
    induction z2 with
    | zero => intro l0 l1 l2 h; unfold wp_X10_periodOf_h2 at h; exact h.elim
    | succ z2 k2 =>
      intro l0 l1 l2 h ls hl
      unfold wp_X10_periodOf_h2 at h
      refine lv_iload_n hx hb dX10_periodOf_2 rfl (lv_at hl 0 rfl) ?_
      refine lv_iload_n hx hb dX10_periodOf_3 rfl (lv_at hl 2 rfl) ?_
      refine lv_iload_n hx hb dX10_periodOf_4 rfl (lv_at hl 1 rfl) ?_
      refine vs_calli (va_runS (As := [.int l0, .int l2, .int l1]) (rest := []) ⟨hx, hb, hml, hown, hts⟩ (c_X10_moved l l0 l2 l1 _ h) (va_cwS 3 hts gX10_periodOf_X10_moved rfl rfl rfl (by decide +kernel) ⟨Nat.le_of_ble_eq_true rfl, Nat.le_of_ble_eq_true rfl⟩) ⟨fun a U g mk q => ⟨q.1, nW_call q.2⟩, fun U hU hW => ⟨rfl, nW_warm hW hN⟩⟩ rfl rfl hl.1 rfl (lv_room (Nat.le_of_ble_eq_true rfl)) dX10_periodOf_5 ⟨Nat.le_of_ble_eq_true rfl, Nat.le_of_ble_eq_true rfl⟩) (fun r1 h => ?_)
      refine lv_iload_n hx hb dX10_periodOf_8 rfl (lv_at hl 0 rfl) ?_
      refine lv_icmp_eq (tgt := 18) hx hb dX10_periodOf_9 (by decide) (fun c2 => ?_) (fun c2 => ?_)
      · replace h := h.1 c2
        refine lv_iload_n hx hb dX10_periodOf_18 rfl (lv_at hl 2 rfl) ?_
        exact W.iret (v := l2) hx hb hr (fun t ht hW => ⟨_, rfl, h, ht⟩) (fun _ h => by cases h) dX10_periodOf_19
      · replace h := h.2 c2
        obtain ⟨x3, ex3⟩ : ∃ y : Int32, y = l2 + 1 := ⟨_, rfl⟩
        replace h := h x3 ex3
        refine lv_iinc (v := x3) (lv' := [(2, .int x3), (0, .int l0), (1, .int l1)]) hx hb dX10_periodOf_12 hl (k := 2) rfl (by rw [ex3]; rfl) (by decide) rfl (fun ls hl => ?_)
        refine lv_goto (tgt := 2) hx hb dX10_periodOf_15 (by decide) ?_
        exact k2 l0 l1 x3 h ls (lv_sub hl [1, 2, 0] rfl)
  have hl := lv_entry ([.int p0, .int p1]) (n := 3) (Nat.le_of_ble_eq_true rfl)
  rw [lg_entry_eq]
  generalize (lg_sl ([.int p0, .int p1]) ++ List.replicate (3 - (lg_sl ([.int p0, .int p1])).length) Slot.unset).toArray = ls at hl ⊢
  have hl : lv_has ls 3 [(0, .int p0), (1, .int p1)] := hl
  refine lv_iconst (v := 1) hx hb dX10_periodOf_0 (by decide) ?_
  refine lv_istore_n (lv' := [(2, .int 1), (0, .int p0), (1, .int p1)]) hx hb dX10_periodOf_1 rfl hl (by decide) rfl (fun ls hl => ?_)
  obtain ⟨k4, h⟩ := h
  exact w2 k4 p0 p1 1 h ls (lv_sub hl [1, 2, 0] rfl)

def wp_X10_isMoved_j38 (Q : Int32 → Prop) (l3 : Int32) : Prop := isB l3 ∧ Q l3
def wp_X10_isMoved_j31 (L5 : Int32 → Int32 → Int32 → Int32 → Int32 → Prop) (Q : Int32 → Prop) (l0 : Int32) (l1 : Int32) (l2 : Int32) (l4 : Int32) (s0 : Int32) : Prop := ∀ x1 : Int32, x1 = l4 + 1 → L5 l0 l1 l2 s0 x1
def wp_X10_isMoved_h5 (Q : Int32 → Prop) : Nat → Int32 → Int32 → Int32 → Int32 → Int32 → Prop
  | 0, _, _, _, _, _ => False
  | z5 + 1, l0, l1, l2, l3, l4 => (l2 ≤ l4 → (wp_X10_isMoved_j38 Q l3)) ∧ (¬ l2 ≤ l4 → ((¬ l3 = 0 → (wp_X10_isMoved_j38 Q l3)) ∧ (l3 = 0 → (wp_X10_moved l0 l4 l2 fun (r4 : Int32) => (¬ r4 = l1 → (wp_X10_isMoved_j31 (wp_X10_isMoved_h5 Q z5) Q l0 l1 l2 l4 0)) ∧ (r4 = l1 → (wp_X10_isMoved_j31 (wp_X10_isMoved_h5 Q z5) Q l0 l1 l2 l4 1))))))
def wp_X10_isMoved (p0 : Int32) (p1 : Int32) (p2 : Int32) (Q : Int32 → Prop) : Prop := ∃ k6 : Nat, wp_X10_isMoved_h5 Q k6 p0 p1 p2 0 0
abbrev rmX10_isMoved : Room := { frames := 2, cells := 0, slots := 0, locals := 43 }
set_option maxHeartbeats 4000000 in
set_option maxRecDepth 100000 in
theorem c_X10_isMoved (l : Launch) (p0 : Int32) (p1 : Int32) (p2 : Int32) (Q : Int32 → Prop) (h : wp_X10_isMoved p0 p1 p2 Q) : Met l yX10_isMoved wsX10_isMoved (rmX10_isMoved) (va_Pc [.int p0, .int p1, .int p2] (fun U => nW U)) (vp_Si Q) 0 0 (fun _ => False) := by
  unfold wp_X10_isMoved at h
  refine Met.ofW (cc := cX10_isMoved) (maxL := 5) (ret := (some .boolean)) (by decide) rfl ?_
  intro p e s m args below meth c s₁ B hml hv
  obtain ⟨rfl, hN⟩ := hv
  have hx := B.exec
  have hb := B.bytes
  have hr := B.returns
  have hts := atoms_spec (ws := wsX10_isMoved) B.pre
  have hown : s.vm.findClass RX10 = some m.cls := findClass_of_methodNamed B.named
  have hlocks := B.notSynchronized
  have w38 : ∀ (l3 : Int32), wp_X10_isMoved_j38 Q l3 → ∀ (ls : Array Slot), lv_has ls 5 [(3, .int l3)] → W p l e (headSpec wsX10_isMoved (rmX10_isMoved)).room s m ([.int p0, .int p1, .int p2] : List Value).toArray below meth c s.heap [] 0 0 (MQ below (vp_Si Q) ([.int p0, .int p1, .int p2] : List Value).toArray s 0 0 (fun _ => False)) (F0 m 38 ls []) := by
    intro l3 h ls hl
    unfold wp_X10_isMoved_j38 at h
    refine lv_iload_n hx hb dX10_isMoved_38 rfl (lv_at hl 0 rfl) ?_
    have hz := h.1
    replace h := h.2
    exact W.zret (v := l3) hx hb hr hz (fun t ht hW => ⟨_, rfl, h, ht⟩) (fun _ h => by cases h) dX10_isMoved_39
  have w5 : ∀ (z5 : Nat) (l0 : Int32) (l1 : Int32) (l2 : Int32) (l3 : Int32) (l4 : Int32), wp_X10_isMoved_h5 Q z5 l0 l1 l2 l3 l4 → ∀ (ls : Array Slot), lv_has ls 5 [(0, .int l0), (1, .int l1), (2, .int l2), (3, .int l3), (4, .int l4)] → W p l e (headSpec wsX10_isMoved (rmX10_isMoved)).room s m ([.int p0, .int p1, .int p2] : List Value).toArray below meth c s.heap [] 0 0 (MQ below (vp_Si Q) ([.int p0, .int p1, .int p2] : List Value).toArray s 0 0 (fun _ => False)) (F0 m 5 ls []) := by
    intro z5
    induction z5 with
    | zero => intro l0 l1 l2 l3 l4 h; unfold wp_X10_isMoved_h5 at h; exact h.elim
    | succ z5 k5 =>
      have w31 : ∀ (l0 : Int32) (l1 : Int32) (l2 : Int32) (l4 : Int32) (s0 : Int32), wp_X10_isMoved_j31 (wp_X10_isMoved_h5 Q z5) Q l0 l1 l2 l4 s0 → ∀ (ls : Array Slot), lv_has ls 5 [(0, .int l0), (1, .int l1), (2, .int l2), (4, .int l4)] → W p l e (headSpec wsX10_isMoved (rmX10_isMoved)).room s m ([.int p0, .int p1, .int p2] : List Value).toArray below meth c s.heap [] 0 0 (MQ below (vp_Si Q) ([.int p0, .int p1, .int p2] : List Value).toArray s 0 0 (fun _ => False)) (F0 m 31 ls [.int s0]) := by
        intro l0 l1 l2 l4 s0 h ls hl
        unfold wp_X10_isMoved_j31 at h
        refine lv_istore_n (lv' := [(3, .int s0), (0, .int l0), (1, .int l1), (2, .int l2), (4, .int l4)]) hx hb dX10_isMoved_31 rfl hl (by decide) rfl (fun ls hl => ?_)
        obtain ⟨x1, ex1⟩ : ∃ y : Int32, y = l4 + 1 := ⟨_, rfl⟩
        replace h := h x1 ex1
        refine lv_iinc (v := x1) (lv' := [(4, .int x1), (3, .int s0), (0, .int l0), (1, .int l1), (2, .int l2)]) hx hb dX10_isMoved_32 hl (k := 4) rfl (by rw [ex1]; rfl) (by decide) rfl (fun ls hl => ?_)
        refine lv_goto (tgt := 5) hx hb dX10_isMoved_35 (by decide) ?_
        exact k5 l0 l1 l2 s0 x1 h ls (lv_sub hl [2, 3, 4, 1, 0] rfl)
      intro l0 l1 l2 l3 l4 h ls hl
      unfold wp_X10_isMoved_h5 at h
      refine lv_iload hx hb dX10_isMoved_5 (lv_at hl 4 rfl) ?_
      refine lv_iload_n hx hb dX10_isMoved_7 rfl (lv_at hl 2 rfl) ?_
      refine lv_icmp_ge (tgt := 38) hx hb dX10_isMoved_8 (by decide) (fun c2 => ?_) (fun c2 => ?_)
      · replace h := h.1 c2
        exact w38 l3 h ls (lv_sub hl [3] rfl)
      · replace h := h.2 c2
        refine lv_iload_n hx hb dX10_isMoved_11 rfl (lv_at hl 3 rfl) ?_
        refine lv_if_ne (tgt := 38) hx hb dX10_isMoved_12 (by decide) (fun c3 => ?_) (fun c3 => ?_)
        · replace h := h.1 c3
          exact w38 l3 h ls (lv_sub hl [3] rfl)
        · replace h := h.2 c3
          refine lv_iload_n hx hb dX10_isMoved_15 rfl (lv_at hl 0 rfl) ?_
          refine lv_iload hx hb dX10_isMoved_16 (lv_at hl 4 rfl) ?_
          refine lv_iload_n hx hb dX10_isMoved_18 rfl (lv_at hl 2 rfl) ?_
          refine vs_calli (va_runS (As := [.int l0, .int l4, .int l2]) (rest := []) ⟨hx, hb, hml, hown, hts⟩ (c_X10_moved l l0 l4 l2 _ h) (va_cwS 3 hts gX10_isMoved_X10_moved rfl rfl rfl (by decide +kernel) ⟨Nat.le_of_ble_eq_true rfl, Nat.le_of_ble_eq_true rfl⟩) ⟨fun a U g mk q => ⟨q.1, nW_call q.2⟩, fun U hU hW => ⟨rfl, nW_warm hW hN⟩⟩ rfl rfl hl.1 rfl (lv_room (Nat.le_of_ble_eq_true rfl)) dX10_isMoved_19 ⟨Nat.le_of_ble_eq_true rfl, Nat.le_of_ble_eq_true rfl⟩) (fun r4 h => ?_)
          refine lv_iload_n hx hb dX10_isMoved_22 rfl (lv_at hl 1 rfl) ?_
          refine lv_icmp_ne (tgt := 30) hx hb dX10_isMoved_23 (by decide) (fun c5 => ?_) (fun c5 => ?_)
          · replace h := h.1 c5
            refine lv_iconst (v := 0) hx hb dX10_isMoved_30 (by decide) ?_
            exact w31 l0 l1 l2 l4 0 h ls (lv_sub hl [0, 1, 2, 4] rfl)
          · replace h := h.2 c5
            refine lv_iconst (v := 1) hx hb dX10_isMoved_26 (by decide) ?_
            refine lv_goto (tgt := 31) hx hb dX10_isMoved_27 (by decide) ?_
            exact w31 l0 l1 l2 l4 1 h ls (lv_sub hl [0, 1, 2, 4] rfl)
  have hl := lv_entry ([.int p0, .int p1, .int p2]) (n := 5) (Nat.le_of_ble_eq_true rfl)
  rw [lg_entry_eq]
  generalize (lg_sl ([.int p0, .int p1, .int p2]) ++ List.replicate (5 - (lg_sl ([.int p0, .int p1, .int p2])).length) Slot.unset).toArray = ls at hl ⊢
  have hl : lv_has ls 5 [(0, .int p0), (1, .int p1), (2, .int p2)] := hl
  refine lv_iconst (v := 0) hx hb dX10_isMoved_0 (by decide) ?_
  refine lv_istore_n (lv' := [(3, .int 0), (0, .int p0), (1, .int p1), (2, .int p2)]) hx hb dX10_isMoved_1 rfl hl (by decide) rfl (fun ls hl => ?_)
  refine lv_iconst (v := 0) hx hb dX10_isMoved_2 (by decide) ?_
  refine lv_istore (lv' := [(4, .int 0), (3, .int 0), (0, .int p0), (1, .int p1), (2, .int p2)]) hx hb dX10_isMoved_3 hl (by decide) rfl (fun ls hl => ?_)
  obtain ⟨k6, h⟩ := h
  exact w5 k6 p0 p1 p2 0 0 h ls (lv_sub hl [2, 3, 4, 1, 0] rfl)

def wp_X10_firstFree_h2 (Q : Int32 → Prop) : Nat → Int32 → Int32 → Prop
  | 0, _, _ => False
  | z2 + 1, l0, l1 => wp_X10_has l0 l1 fun (r1 : Int32) => (r1 = 0 → (Q l1)) ∧ (¬ r1 = 0 → (∀ x3 : Int32, x3 = l1 + 1 → (wp_X10_firstFree_h2 Q z2) l0 x3))
def wp_X10_firstFree (p0 : Int32) (Q : Int32 → Prop) : Prop := ∃ k4 : Nat, wp_X10_firstFree_h2 Q k4 p0 0
abbrev rmX10_firstFree : Room := { frames := 1, cells := 0, slots := 0, locals := 21 }
set_option maxHeartbeats 4000000 in
set_option maxRecDepth 100000 in
theorem c_X10_firstFree (l : Launch) (p0 : Int32) (Q : Int32 → Prop) (h : wp_X10_firstFree p0 Q) : Met l yX10_firstFree wsX10_firstFree (rmX10_firstFree) (va_Pc [.int p0] (fun U => nW U)) (vp_Si Q) 0 0 (fun _ => False) := by
  unfold wp_X10_firstFree at h
  refine Met.ofW (cc := cX10_firstFree) (maxL := 2) (ret := (some .int)) (by decide) rfl ?_
  intro p e s m args below meth c s₁ B hml hv
  obtain ⟨rfl, hN⟩ := hv
  have hx := B.exec
  have hb := B.bytes
  have hr := B.returns
  have hts := atoms_spec (ws := wsX10_firstFree) B.pre
  have hown : s.vm.findClass RX10 = some m.cls := findClass_of_methodNamed B.named
  have hlocks := B.notSynchronized
  have w2 : ∀ (z2 : Nat) (l0 : Int32) (l1 : Int32), wp_X10_firstFree_h2 Q z2 l0 l1 → ∀ (ls : Array Slot), lv_has ls 2 [(0, .int l0), (1, .int l1)] → W p l e (headSpec wsX10_firstFree (rmX10_firstFree)).room s m ([.int p0] : List Value).toArray below meth c s.heap [] 0 0 (MQ below (vp_Si Q) ([.int p0] : List Value).toArray s 0 0 (fun _ => False)) (F0 m 2 ls []) := by
    intro z2
    induction z2 with
    | zero => intro l0 l1 h; unfold wp_X10_firstFree_h2 at h; exact h.elim
    | succ z2 k2 =>
      intro l0 l1 h ls hl
      unfold wp_X10_firstFree_h2 at h
      refine lv_iload_n hx hb dX10_firstFree_2 rfl (lv_at hl 0 rfl) ?_
      refine lv_iload_n hx hb dX10_firstFree_3 rfl (lv_at hl 1 rfl) ?_
      refine vs_calli (va_runS (As := [.int l0, .int l1]) (rest := []) ⟨hx, hb, hml, hown, hts⟩ (c_X10_has l l0 l1 _ h) (va_cwS 2 hts gX10_firstFree_X10_has rfl rfl rfl (by decide +kernel) ⟨Nat.le_of_ble_eq_true rfl, Nat.le_of_ble_eq_true rfl⟩) ⟨fun a U g mk q => ⟨q.1, nW_call q.2⟩, fun U hU hW => ⟨rfl, nW_warm hW hN⟩⟩ rfl rfl hl.1 rfl (lv_room (Nat.le_of_ble_eq_true rfl)) dX10_firstFree_4 ⟨Nat.le_of_ble_eq_true rfl, Nat.le_of_ble_eq_true rfl⟩) (fun r1 h => ?_)
      refine lv_if_eq (tgt := 16) hx hb dX10_firstFree_7 (by decide) (fun c2 => ?_) (fun c2 => ?_)
      · replace h := h.1 c2
        refine lv_iload_n hx hb dX10_firstFree_16 rfl (lv_at hl 1 rfl) ?_
        exact W.iret (v := l1) hx hb hr (fun t ht hW => ⟨_, rfl, h, ht⟩) (fun _ h => by cases h) dX10_firstFree_17
      · replace h := h.2 c2
        obtain ⟨x3, ex3⟩ : ∃ y : Int32, y = l1 + 1 := ⟨_, rfl⟩
        replace h := h x3 ex3
        refine lv_iinc (v := x3) (lv' := [(1, .int x3), (0, .int l0)]) hx hb dX10_firstFree_10 hl (k := 1) rfl (by rw [ex3]; rfl) (by decide) rfl (fun ls hl => ?_)
        refine lv_goto (tgt := 2) hx hb dX10_firstFree_13 (by decide) ?_
        exact k2 l0 x3 h ls (lv_sub hl [1, 0] rfl)
  have hl := lv_entry ([.int p0]) (n := 2) (Nat.le_of_ble_eq_true rfl)
  rw [lg_entry_eq]
  generalize (lg_sl ([.int p0]) ++ List.replicate (2 - (lg_sl ([.int p0])).length) Slot.unset).toArray = ls at hl ⊢
  have hl : lv_has ls 2 [(0, .int p0)] := hl
  refine lv_iconst (v := 0) hx hb dX10_firstFree_0 (by decide) ?_
  refine lv_istore_n (lv' := [(1, .int 0), (0, .int p0)]) hx hb dX10_firstFree_1 rfl hl (by decide) rfl (fun ls hl => ?_)
  obtain ⟨k4, h⟩ := h
  exact w2 k4 p0 0 h ls (lv_sub hl [1, 0] rfl)

def wp_X10_nextOf_h4 (Q : Int32 → Prop) : Nat → Int32 → Prop
  | 0, _ => False
  | z4 + 1, l1 => wp_X10_bits l1 fun (r1 : Int32) => (r1 ≤ 3 → (Q l1)) ∧ (¬ r1 ≤ 3 → (∀ x3 : Int32, x3 = (l1 + (l1 &&& (-l1))) → (wp_X10_nextOf_h4 Q z4) x3))
def wp_X10_nextOf (p0 : Int32) (Q : Int32 → Prop) : Prop := ∀ x4 : Int32, x4 = (p0 + 1) → ∃ k5 : Nat, wp_X10_nextOf_h4 Q k5 x4
abbrev rmX10_nextOf : Room := { frames := 1, cells := 0, slots := 0, locals := 22 }
set_option maxHeartbeats 4000000 in
set_option maxRecDepth 100000 in
theorem c_X10_nextOf (l : Launch) (p0 : Int32) (Q : Int32 → Prop) (h : wp_X10_nextOf p0 Q) : Met l yX10_nextOf wsX10_nextOf (rmX10_nextOf) (va_Pc [.int p0] (fun U => nW U)) (vp_Si Q) 0 0 (fun _ => False) := by
  unfold wp_X10_nextOf at h
  refine Met.ofW (cc := cX10_nextOf) (maxL := 2) (ret := (some .int)) (by decide) rfl ?_
  intro p e s m args below meth c s₁ B hml hv
  obtain ⟨rfl, hN⟩ := hv
  have hx := B.exec
  have hb := B.bytes
  have hr := B.returns
  have hts := atoms_spec (ws := wsX10_nextOf) B.pre
  have hown : s.vm.findClass RX10 = some m.cls := findClass_of_methodNamed B.named
  have hlocks := B.notSynchronized
  have w4 : ∀ (z4 : Nat) (l1 : Int32), wp_X10_nextOf_h4 Q z4 l1 → ∀ (ls : Array Slot), lv_has ls 2 [(1, .int l1)] → W p l e (headSpec wsX10_nextOf (rmX10_nextOf)).room s m ([.int p0] : List Value).toArray below meth c s.heap [] 0 0 (MQ below (vp_Si Q) ([.int p0] : List Value).toArray s 0 0 (fun _ => False)) (F0 m 4 ls []) := by
    intro z4
    induction z4 with
    | zero => intro l1 h; unfold wp_X10_nextOf_h4 at h; exact h.elim
    | succ z4 k4 =>
      intro l1 h ls hl
      unfold wp_X10_nextOf_h4 at h
      refine lv_iload_n hx hb dX10_nextOf_4 rfl (lv_at hl 0 rfl) ?_
      refine vs_calli (va_runS (As := [.int l1]) (rest := []) ⟨hx, hb, hml, hown, hts⟩ (c_X10_bits l l1 _ h) (va_cwS 1 hts gX10_nextOf_X10_bits rfl rfl rfl (by decide +kernel) ⟨Nat.le_of_ble_eq_true rfl, Nat.le_of_ble_eq_true rfl⟩) ⟨fun a U g mk q => ⟨q.1, nW_call q.2⟩, fun U hU hW => ⟨rfl, nW_warm hW hN⟩⟩ rfl rfl hl.1 rfl (lv_room (Nat.le_of_ble_eq_true rfl)) dX10_nextOf_5 ⟨Nat.le_of_ble_eq_true rfl, Nat.le_of_ble_eq_true rfl⟩) (fun r1 h => ?_)
      refine lv_iconst (v := 3) hx hb dX10_nextOf_8 (by decide) ?_
      refine lv_icmp_le (tgt := 22) hx hb dX10_nextOf_9 (by decide) (fun c2 => ?_) (fun c2 => ?_)
      · replace h := h.1 c2
        refine lv_iload_n hx hb dX10_nextOf_22 rfl (lv_at hl 0 rfl) ?_
        exact W.iret (v := l1) hx hb hr (fun t ht hW => ⟨_, rfl, h, ht⟩) (fun _ h => by cases h) dX10_nextOf_23
      · replace h := h.2 c2
        refine lv_iload_n hx hb dX10_nextOf_12 rfl (lv_at hl 0 rfl) ?_
        refine lv_iload_n hx hb dX10_nextOf_13 rfl (lv_at hl 0 rfl) ?_
        refine lv_iload_n hx hb dX10_nextOf_14 rfl (lv_at hl 0 rfl) ?_
        refine lv_ineg hx hb dX10_nextOf_15 ?_
        refine lv_iand hx hb dX10_nextOf_16 ?_
        refine lv_iadd hx hb dX10_nextOf_17 ?_
        refine lv_topi (fun x3 ex3 => ?_)
        replace h := h x3 ex3
        refine lv_istore_n (lv' := [(1, .int x3)]) hx hb dX10_nextOf_18 rfl hl (by decide) rfl (fun ls hl => ?_)
        refine lv_goto (tgt := 4) hx hb dX10_nextOf_19 (by decide) ?_
        exact k4 x3 h ls (lv_sub hl [0] rfl)
  have hl := lv_entry ([.int p0]) (n := 2) (Nat.le_of_ble_eq_true rfl)
  rw [lg_entry_eq]
  generalize (lg_sl ([.int p0]) ++ List.replicate (2 - (lg_sl ([.int p0])).length) Slot.unset).toArray = ls at hl ⊢
  have hl : lv_has ls 2 [(0, .int p0)] := hl
  refine lv_iload_n hx hb dX10_nextOf_0 rfl (lv_at hl 0 rfl) ?_
  refine lv_iconst (v := 1) hx hb dX10_nextOf_1 (by decide) ?_
  refine lv_iadd hx hb dX10_nextOf_2 ?_
  refine lv_topi (fun x4 ex4 => ?_)
  replace h := h x4 ex4
  refine lv_istore_n (lv' := [(1, .int x4), (0, .int p0)]) hx hb dX10_nextOf_3 rfl hl (by decide) rfl (fun ls hl => ?_)
  obtain ⟨k5, h⟩ := h
  exact w4 k5 x4 h ls (lv_sub hl [0] rfl)

def wp_X10_valueOf_j25 (L4 : Int32 → Int32 → Int32 → Int32 → Prop) (Q : Int32 → Prop) (l0 : Int32) (l1 : Int32) (l3 : Int32) (s0 : Int32) (s1 : Int32) : Prop := ∀ x1 : Int32, x1 = (s0 + s1) → ∀ x2 : Int32, x2 = l3 + 1 → L4 l0 l1 x1 x2
def wp_X10_valueOf_h4 (Q : Int32 → Prop) : Nat → Int32 → Int32 → Int32 → Int32 → Prop
  | 0, _, _, _, _ => False
  | z4 + 1, l0, l1, l2, l3 => (l1 ≤ l3 → (Q l2)) ∧ (¬ l1 ≤ l3 → (wp_X10_has l0 l3 fun (r4 : Int32) => (r4 = 0 → (wp_X10_valueOf_j25 (wp_X10_valueOf_h4 Q z4) Q l0 l1 l3 (2 * l2) 0)) ∧ (¬ r4 = 0 → (wp_X10_valueOf_j25 (wp_X10_valueOf_h4 Q z4) Q l0 l1 l3 (2 * l2) 1))))
def wp_X10_valueOf (p0 : Int32) (p1 : Int32) (Q : Int32 → Prop) : Prop := ∃ k6 : Nat, wp_X10_valueOf_h4 Q k6 p0 p1 0 0
abbrev rmX10_valueOf : Room := { frames := 1, cells := 0, slots := 0, locals := 21 }
set_option maxHeartbeats 4000000 in
set_option maxRecDepth 100000 in
theorem c_X10_valueOf (l : Launch) (p0 : Int32) (p1 : Int32) (Q : Int32 → Prop) (h : wp_X10_valueOf p0 p1 Q) : Met l yX10_valueOf wsX10_valueOf (rmX10_valueOf) (va_Pc [.int p0, .int p1] (fun U => nW U)) (vp_Si Q) 0 0 (fun _ => False) := by
  unfold wp_X10_valueOf at h
  refine Met.ofW (cc := cX10_valueOf) (maxL := 4) (ret := (some .int)) (by decide) rfl ?_
  intro p e s m args below meth c s₁ B hml hv
  obtain ⟨rfl, hN⟩ := hv
  have hx := B.exec
  have hb := B.bytes
  have hr := B.returns
  have hts := atoms_spec (ws := wsX10_valueOf) B.pre
  have hown : s.vm.findClass RX10 = some m.cls := findClass_of_methodNamed B.named
  have hlocks := B.notSynchronized
  have w4 : ∀ (z4 : Nat) (l0 : Int32) (l1 : Int32) (l2 : Int32) (l3 : Int32), wp_X10_valueOf_h4 Q z4 l0 l1 l2 l3 → ∀ (ls : Array Slot), lv_has ls 4 [(0, .int l0), (1, .int l1), (2, .int l2), (3, .int l3)] → W p l e (headSpec wsX10_valueOf (rmX10_valueOf)).room s m ([.int p0, .int p1] : List Value).toArray below meth c s.heap [] 0 0 (MQ below (vp_Si Q) ([.int p0, .int p1] : List Value).toArray s 0 0 (fun _ => False)) (F0 m 4 ls []) := by
    intro z4
    induction z4 with
    | zero => intro l0 l1 l2 l3 h; unfold wp_X10_valueOf_h4 at h; exact h.elim
    | succ z4 k4 =>
      have w25 : ∀ (l0 : Int32) (l1 : Int32) (l3 : Int32) (s0 : Int32) (s1 : Int32), wp_X10_valueOf_j25 (wp_X10_valueOf_h4 Q z4) Q l0 l1 l3 s0 s1 → ∀ (ls : Array Slot), lv_has ls 4 [(0, .int l0), (1, .int l1), (3, .int l3)] → W p l e (headSpec wsX10_valueOf (rmX10_valueOf)).room s m ([.int p0, .int p1] : List Value).toArray below meth c s.heap [] 0 0 (MQ below (vp_Si Q) ([.int p0, .int p1] : List Value).toArray s 0 0 (fun _ => False)) (F0 m 25 ls [.int s1, .int s0]) := by
        intro l0 l1 l3 s0 s1 h ls hl
        unfold wp_X10_valueOf_j25 at h
        refine lv_iadd hx hb dX10_valueOf_25 ?_
        refine lv_topi (fun x1 ex1 => ?_)
        replace h := h x1 ex1
        refine lv_istore_n (lv' := [(2, .int x1), (0, .int l0), (1, .int l1), (3, .int l3)]) hx hb dX10_valueOf_26 rfl hl (by decide) rfl (fun ls hl => ?_)
        obtain ⟨x2, ex2⟩ : ∃ y : Int32, y = l3 + 1 := ⟨_, rfl⟩
        replace h := h x2 ex2
        refine lv_iinc (v := x2) (lv' := [(3, .int x2), (2, .int x1), (0, .int l0), (1, .int l1)]) hx hb dX10_valueOf_27 hl (k := 3) rfl (by rw [ex2]; rfl) (by decide) rfl (fun ls hl => ?_)
        refine lv_goto (tgt := 4) hx hb dX10_valueOf_30 (by decide) ?_
        exact k4 l0 l1 x1 x2 h ls (lv_sub hl [2, 3, 1, 0] rfl)
      intro l0 l1 l2 l3 h ls hl
      unfold wp_X10_valueOf_h4 at h
      refine lv_iload_n hx hb dX10_valueOf_4 rfl (lv_at hl 3 rfl) ?_
      refine lv_iload_n hx hb dX10_valueOf_5 rfl (lv_at hl 1 rfl) ?_
      refine lv_icmp_ge (tgt := 33) hx hb dX10_valueOf_6 (by decide) (fun c3 => ?_) (fun c3 => ?_)
      · replace h := h.1 c3
        refine lv_iload_n hx hb dX10_valueOf_33 rfl (lv_at hl 2 rfl) ?_
        exact W.iret (v := l2) hx hb hr (fun t ht hW => ⟨_, rfl, h, ht⟩) (fun _ h => by cases h) dX10_valueOf_34
      · replace h := h.2 c3
        refine lv_iconst (v := 2) hx hb dX10_valueOf_9 (by decide) ?_
        refine lv_iload_n hx hb dX10_valueOf_10 rfl (lv_at hl 2 rfl) ?_
        refine lv_imul hx hb dX10_valueOf_11 ?_
        refine lv_iload_n hx hb dX10_valueOf_12 rfl (lv_at hl 0 rfl) ?_
        refine lv_iload_n hx hb dX10_valueOf_13 rfl (lv_at hl 3 rfl) ?_
        refine vs_calli (va_runS (As := [.int l0, .int l3]) (rest := [.int (2 * l2)]) ⟨hx, hb, hml, hown, hts⟩ (c_X10_has l l0 l3 _ h) (va_cwS 2 hts gX10_valueOf_X10_has rfl rfl rfl (by decide +kernel) ⟨Nat.le_of_ble_eq_true rfl, Nat.le_of_ble_eq_true rfl⟩) ⟨fun a U g mk q => ⟨q.1, nW_call q.2⟩, fun U hU hW => ⟨rfl, nW_warm hW hN⟩⟩ rfl rfl hl.1 rfl (lv_room (Nat.le_of_ble_eq_true rfl)) dX10_valueOf_14 ⟨Nat.le_of_ble_eq_true rfl, Nat.le_of_ble_eq_true rfl⟩) (fun r4 h => ?_)
        refine lv_if_eq (tgt := 24) hx hb dX10_valueOf_17 (by decide) (fun c5 => ?_) (fun c5 => ?_)
        · replace h := h.1 c5
          refine lv_iconst (v := 0) hx hb dX10_valueOf_24 (by decide) ?_
          exact w25 l0 l1 l3 (2 * l2) 0 h ls (lv_sub hl [0, 1, 3] rfl)
        · replace h := h.2 c5
          refine lv_iconst (v := 1) hx hb dX10_valueOf_20 (by decide) ?_
          refine lv_goto (tgt := 25) hx hb dX10_valueOf_21 (by decide) ?_
          exact w25 l0 l1 l3 (2 * l2) 1 h ls (lv_sub hl [0, 1, 3] rfl)
  have hl := lv_entry ([.int p0, .int p1]) (n := 4) (Nat.le_of_ble_eq_true rfl)
  rw [lg_entry_eq]
  generalize (lg_sl ([.int p0, .int p1]) ++ List.replicate (4 - (lg_sl ([.int p0, .int p1])).length) Slot.unset).toArray = ls at hl ⊢
  have hl : lv_has ls 4 [(0, .int p0), (1, .int p1)] := hl
  refine lv_iconst (v := 0) hx hb dX10_valueOf_0 (by decide) ?_
  refine lv_istore_n (lv' := [(2, .int 0), (0, .int p0), (1, .int p1)]) hx hb dX10_valueOf_1 rfl hl (by decide) rfl (fun ls hl => ?_)
  refine lv_iconst (v := 0) hx hb dX10_valueOf_2 (by decide) ?_
  refine lv_istore_n (lv' := [(3, .int 0), (2, .int 0), (0, .int p0), (1, .int p1)]) hx hb dX10_valueOf_3 rfl hl (by decide) rfl (fun ls hl => ?_)
  obtain ⟨k6, h⟩ := h
  exact w4 k6 p0 p1 0 0 h ls (lv_sub hl [2, 3, 1, 0] rfl)

def wp_X10_isLeast_j35 (Q : Int32 → Prop) (l2 : Int32) : Prop := isB l2 ∧ Q l2
def wp_X10_isLeast_j28 (L4 : Int32 → Int32 → Int32 → Int32 → Prop) (Q : Int32 → Prop) (l0 : Int32) (l1 : Int32) (l3 : Int32) (s0 : Int32) : Prop := ∀ x1 : Int32, x1 = l3 + 1 → L4 l0 l1 s0 x1
def wp_X10_isLeast_h4 (Q : Int32 → Prop) : Nat → Int32 → Int32 → Int32 → Int32 → Prop
  | 0, _, _, _, _ => False
  | z4 + 1, l0, l1, l2, l3 => (l1 ≤ l3 → (wp_X10_isLeast_j35 Q l2)) ∧ (¬ l1 ≤ l3 → ((l2 = 0 → (wp_X10_isLeast_j35 Q l2)) ∧ (¬ l2 = 0 → (wp_X10_moved l0 l3 l1 fun (r4 : Int32) => (r4 < l0 → (wp_X10_isLeast_j28 (wp_X10_isLeast_h4 Q z4) Q l0 l1 l3 0)) ∧ (¬ r4 < l0 → (wp_X10_isLeast_j28 (wp_X10_isLeast_h4 Q z4) Q l0 l1 l3 1))))))
def wp_X10_isLeast (p0 : Int32) (p1 : Int32) (Q : Int32 → Prop) : Prop := ∃ k6 : Nat, wp_X10_isLeast_h4 Q k6 p0 p1 1 1
abbrev rmX10_isLeast : Room := { frames := 2, cells := 0, slots := 0, locals := 43 }
set_option maxHeartbeats 4000000 in
set_option maxRecDepth 100000 in
theorem c_X10_isLeast (l : Launch) (p0 : Int32) (p1 : Int32) (Q : Int32 → Prop) (h : wp_X10_isLeast p0 p1 Q) : Met l yX10_isLeast wsX10_isLeast (rmX10_isLeast) (va_Pc [.int p0, .int p1] (fun U => nW U)) (vp_Si Q) 0 0 (fun _ => False) := by
  unfold wp_X10_isLeast at h
  refine Met.ofW (cc := cX10_isLeast) (maxL := 4) (ret := (some .boolean)) (by decide) rfl ?_
  intro p e s m args below meth c s₁ B hml hv
  obtain ⟨rfl, hN⟩ := hv
  have hx := B.exec
  have hb := B.bytes
  have hr := B.returns
  have hts := atoms_spec (ws := wsX10_isLeast) B.pre
  have hown : s.vm.findClass RX10 = some m.cls := findClass_of_methodNamed B.named
  have hlocks := B.notSynchronized
  have w35 : ∀ (l2 : Int32), wp_X10_isLeast_j35 Q l2 → ∀ (ls : Array Slot), lv_has ls 4 [(2, .int l2)] → W p l e (headSpec wsX10_isLeast (rmX10_isLeast)).room s m ([.int p0, .int p1] : List Value).toArray below meth c s.heap [] 0 0 (MQ below (vp_Si Q) ([.int p0, .int p1] : List Value).toArray s 0 0 (fun _ => False)) (F0 m 35 ls []) := by
    intro l2 h ls hl
    unfold wp_X10_isLeast_j35 at h
    refine lv_iload_n hx hb dX10_isLeast_35 rfl (lv_at hl 0 rfl) ?_
    have hz := h.1
    replace h := h.2
    exact W.zret (v := l2) hx hb hr hz (fun t ht hW => ⟨_, rfl, h, ht⟩) (fun _ h => by cases h) dX10_isLeast_36
  have w4 : ∀ (z4 : Nat) (l0 : Int32) (l1 : Int32) (l2 : Int32) (l3 : Int32), wp_X10_isLeast_h4 Q z4 l0 l1 l2 l3 → ∀ (ls : Array Slot), lv_has ls 4 [(0, .int l0), (1, .int l1), (2, .int l2), (3, .int l3)] → W p l e (headSpec wsX10_isLeast (rmX10_isLeast)).room s m ([.int p0, .int p1] : List Value).toArray below meth c s.heap [] 0 0 (MQ below (vp_Si Q) ([.int p0, .int p1] : List Value).toArray s 0 0 (fun _ => False)) (F0 m 4 ls []) := by
    intro z4
    induction z4 with
    | zero => intro l0 l1 l2 l3 h; unfold wp_X10_isLeast_h4 at h; exact h.elim
    | succ z4 k4 =>
      have w28 : ∀ (l0 : Int32) (l1 : Int32) (l3 : Int32) (s0 : Int32), wp_X10_isLeast_j28 (wp_X10_isLeast_h4 Q z4) Q l0 l1 l3 s0 → ∀ (ls : Array Slot), lv_has ls 4 [(0, .int l0), (1, .int l1), (3, .int l3)] → W p l e (headSpec wsX10_isLeast (rmX10_isLeast)).room s m ([.int p0, .int p1] : List Value).toArray below meth c s.heap [] 0 0 (MQ below (vp_Si Q) ([.int p0, .int p1] : List Value).toArray s 0 0 (fun _ => False)) (F0 m 28 ls [.int s0]) := by
        intro l0 l1 l3 s0 h ls hl
        unfold wp_X10_isLeast_j28 at h
        refine lv_istore_n (lv' := [(2, .int s0), (0, .int l0), (1, .int l1), (3, .int l3)]) hx hb dX10_isLeast_28 rfl hl (by decide) rfl (fun ls hl => ?_)
        obtain ⟨x1, ex1⟩ : ∃ y : Int32, y = l3 + 1 := ⟨_, rfl⟩
        replace h := h x1 ex1
        refine lv_iinc (v := x1) (lv' := [(3, .int x1), (2, .int s0), (0, .int l0), (1, .int l1)]) hx hb dX10_isLeast_29 hl (k := 3) rfl (by rw [ex1]; rfl) (by decide) rfl (fun ls hl => ?_)
        refine lv_goto (tgt := 4) hx hb dX10_isLeast_32 (by decide) ?_
        exact k4 l0 l1 s0 x1 h ls (lv_sub hl [2, 3, 1, 0] rfl)
      intro l0 l1 l2 l3 h ls hl
      unfold wp_X10_isLeast_h4 at h
      refine lv_iload_n hx hb dX10_isLeast_4 rfl (lv_at hl 3 rfl) ?_
      refine lv_iload_n hx hb dX10_isLeast_5 rfl (lv_at hl 1 rfl) ?_
      refine lv_icmp_ge (tgt := 35) hx hb dX10_isLeast_6 (by decide) (fun c2 => ?_) (fun c2 => ?_)
      · replace h := h.1 c2
        exact w35 l2 h ls (lv_sub hl [2] rfl)
      · replace h := h.2 c2
        refine lv_iload_n hx hb dX10_isLeast_9 rfl (lv_at hl 2 rfl) ?_
        refine lv_if_eq (tgt := 35) hx hb dX10_isLeast_10 (by decide) (fun c3 => ?_) (fun c3 => ?_)
        · replace h := h.1 c3
          exact w35 l2 h ls (lv_sub hl [2] rfl)
        · replace h := h.2 c3
          refine lv_iload_n hx hb dX10_isLeast_13 rfl (lv_at hl 0 rfl) ?_
          refine lv_iload_n hx hb dX10_isLeast_14 rfl (lv_at hl 3 rfl) ?_
          refine lv_iload_n hx hb dX10_isLeast_15 rfl (lv_at hl 1 rfl) ?_
          refine vs_calli (va_runS (As := [.int l0, .int l3, .int l1]) (rest := []) ⟨hx, hb, hml, hown, hts⟩ (c_X10_moved l l0 l3 l1 _ h) (va_cwS 3 hts gX10_isLeast_X10_moved rfl rfl rfl (by decide +kernel) ⟨Nat.le_of_ble_eq_true rfl, Nat.le_of_ble_eq_true rfl⟩) ⟨fun a U g mk q => ⟨q.1, nW_call q.2⟩, fun U hU hW => ⟨rfl, nW_warm hW hN⟩⟩ rfl rfl hl.1 rfl (lv_room (Nat.le_of_ble_eq_true rfl)) dX10_isLeast_16 ⟨Nat.le_of_ble_eq_true rfl, Nat.le_of_ble_eq_true rfl⟩) (fun r4 h => ?_)
          refine lv_iload_n hx hb dX10_isLeast_19 rfl (lv_at hl 0 rfl) ?_
          refine lv_icmp_lt (tgt := 27) hx hb dX10_isLeast_20 (by decide) (fun c5 => ?_) (fun c5 => ?_)
          · replace h := h.1 c5
            refine lv_iconst (v := 0) hx hb dX10_isLeast_27 (by decide) ?_
            exact w28 l0 l1 l3 0 h ls (lv_sub hl [0, 1, 3] rfl)
          · replace h := h.2 c5
            refine lv_iconst (v := 1) hx hb dX10_isLeast_23 (by decide) ?_
            refine lv_goto (tgt := 28) hx hb dX10_isLeast_24 (by decide) ?_
            exact w28 l0 l1 l3 1 h ls (lv_sub hl [0, 1, 3] rfl)
  have hl := lv_entry ([.int p0, .int p1]) (n := 4) (Nat.le_of_ble_eq_true rfl)
  rw [lg_entry_eq]
  generalize (lg_sl ([.int p0, .int p1]) ++ List.replicate (4 - (lg_sl ([.int p0, .int p1])).length) Slot.unset).toArray = ls at hl ⊢
  have hl : lv_has ls 4 [(0, .int p0), (1, .int p1)] := hl
  refine lv_iconst (v := 1) hx hb dX10_isLeast_0 (by decide) ?_
  refine lv_istore_n (lv' := [(2, .int 1), (0, .int p0), (1, .int p1)]) hx hb dX10_isLeast_1 rfl hl (by decide) rfl (fun ls hl => ?_)
  refine lv_iconst (v := 1) hx hb dX10_isLeast_2 (by decide) ?_
  refine lv_istore_n (lv' := [(3, .int 1), (2, .int 1), (0, .int p0), (1, .int p1)]) hx hb dX10_isLeast_3 rfl hl (by decide) rfl (fun ls hl => ?_)
  obtain ⟨k6, h⟩ := h
  exact w4 k6 p0 p1 1 1 h ls (lv_sub hl [2, 3, 1, 0] rfl)

def wp_X10_nextAlike (p0 : Int32) (Q : Int32 → Prop) : Prop := ∀ x1 : Int32, x1 = (p0 &&& (-p0)) → ∀ x2 : Int32, x2 = (p0 + x1) → (¬ (x1 : Int32) = 0) ∧ Q (x2 ||| (((p0 ^^^ x2) / x1) >>> (2 &&& 31)))
abbrev rmX10_nextAlike : Room := { frames := 0, cells := 0, slots := 0, locals := 0 }
set_option maxHeartbeats 4000000 in
set_option maxRecDepth 100000 in
theorem c_X10_nextAlike (l : Launch) (p0 : Int32) (Q : Int32 → Prop) (h : wp_X10_nextAlike p0 Q) : Met l yX10_nextAlike wsX10_nextAlike (rmX10_nextAlike) (va_Pc [.int p0] (fun U => nW U)) (vp_Si Q) 0 0 (fun _ => False) := by
  unfold wp_X10_nextAlike at h
  refine Met.ofW (cc := cX10_nextAlike) (maxL := 3) (ret := (some .int)) (by decide) rfl ?_
  intro p e s m args below meth c s₁ B hml hv
  obtain ⟨rfl, hN⟩ := hv
  have hx := B.exec
  have hb := B.bytes
  have hr := B.returns
  have hts := atoms_spec (ws := wsX10_nextAlike) B.pre
  have hown : s.vm.findClass RX10 = some m.cls := findClass_of_methodNamed B.named
  have hlocks := B.notSynchronized
  have hl := lv_entry ([.int p0]) (n := 3) (Nat.le_of_ble_eq_true rfl)
  rw [lg_entry_eq]
  generalize (lg_sl ([.int p0]) ++ List.replicate (3 - (lg_sl ([.int p0])).length) Slot.unset).toArray = ls at hl ⊢
  have hl : lv_has ls 3 [(0, .int p0)] := hl
  refine lv_iload_n hx hb dX10_nextAlike_0 rfl (lv_at hl 0 rfl) ?_
  refine lv_iload_n hx hb dX10_nextAlike_1 rfl (lv_at hl 0 rfl) ?_
  refine lv_ineg hx hb dX10_nextAlike_2 ?_
  refine lv_iand hx hb dX10_nextAlike_3 ?_
  refine lv_topi (fun x1 ex1 => ?_)
  replace h := h x1 ex1
  refine lv_istore_n (lv' := [(1, .int x1), (0, .int p0)]) hx hb dX10_nextAlike_4 rfl hl (by decide) rfl (fun ls hl => ?_)
  refine lv_iload_n hx hb dX10_nextAlike_5 rfl (lv_at hl 1 rfl) ?_
  refine lv_iload_n hx hb dX10_nextAlike_6 rfl (lv_at hl 0 rfl) ?_
  refine lv_iadd hx hb dX10_nextAlike_7 ?_
  refine lv_topi (fun x2 ex2 => ?_)
  replace h := h x2 ex2
  refine lv_istore_n (lv' := [(2, .int x2), (1, .int x1), (0, .int p0)]) hx hb dX10_nextAlike_8 rfl hl (by decide) rfl (fun ls hl => ?_)
  refine lv_iload_n hx hb dX10_nextAlike_9 rfl (lv_at hl 0 rfl) ?_
  refine lv_iload_n hx hb dX10_nextAlike_10 rfl (lv_at hl 2 rfl) ?_
  refine lv_iload_n hx hb dX10_nextAlike_11 rfl (lv_at hl 0 rfl) ?_
  refine lv_ixor hx hb dX10_nextAlike_12 ?_
  refine lv_iload_n hx hb dX10_nextAlike_13 rfl (lv_at hl 1 rfl) ?_
  refine lv_idiv hx hb dX10_nextAlike_14 h.1 ?_
  replace h := h.2
  refine lv_iconst (v := 2) hx hb dX10_nextAlike_15 (by decide) ?_
  refine lv_ishr hx hb dX10_nextAlike_16 ?_
  refine lv_ior hx hb dX10_nextAlike_17 ?_
  exact W.iret (v := (x2 ||| (((p0 ^^^ x2) / x1) >>> (2 &&& 31)))) hx hb hr (fun t ht hW => ⟨_, rfl, h, ht⟩) (fun _ h => by cases h) dX10_nextAlike_18

def wp_X10_choose_h5 (Q : Int64 → Prop) : Nat → Int32 → Int32 → Int64 → Int32 → Prop
  | 0, _, _, _, _ => False
  | z5 + 1, l0, l1, l2, l4 => (l1 ≤ l4 → (Q l2)) ∧ (¬ l1 ≤ l4 → ((¬ ((((l4 + 1) : Int32).toInt64) : Int64) = 0) ∧ ∀ x2 : Int64, x2 = ((l2 * (((l0 - l4) : Int32).toInt64)) / (((l4 + 1) : Int32).toInt64)) → ∀ x3 : Int32, x3 = l4 + 1 → (wp_X10_choose_h5 Q z5) l0 l1 x2 x3))
def wp_X10_choose (p0 : Int32) (p1 : Int32) (Q : Int64 → Prop) : Prop := ∃ k4 : Nat, wp_X10_choose_h5 Q k4 p0 p1 1 0
abbrev rmX10_choose : Room := { frames := 0, cells := 0, slots := 0, locals := 0 }
set_option maxHeartbeats 4000000 in
set_option maxRecDepth 100000 in
theorem c_X10_choose (l : Launch) (p0 : Int32) (p1 : Int32) (Q : Int64 → Prop) (h : wp_X10_choose p0 p1 Q) : Met l yX10_choose wsX10_choose (rmX10_choose) (va_Pc [.int p0, .int p1] (fun U => nW U)) (vp_Sl Q) 0 0 (fun _ => False) := by
  unfold wp_X10_choose at h
  refine Met.ofW (cc := cX10_choose) (maxL := 5) (ret := (some .long)) (by decide) rfl ?_
  intro p e s m args below meth c s₁ B hml hv
  obtain ⟨rfl, hN⟩ := hv
  have hx := B.exec
  have hb := B.bytes
  have hr := B.returns
  have hts := atoms_spec (ws := wsX10_choose) B.pre
  have hown : s.vm.findClass RX10 = some m.cls := findClass_of_methodNamed B.named
  have hlocks := B.notSynchronized
  have w5 : ∀ (z5 : Nat) (l0 : Int32) (l1 : Int32) (l2 : Int64) (l4 : Int32), wp_X10_choose_h5 Q z5 l0 l1 l2 l4 → ∀ (ls : Array Slot), lv_has ls 5 [(0, .int l0), (1, .int l1), (2, .long l2), (4, .int l4)] → W p l e (headSpec wsX10_choose (rmX10_choose)).room s m ([.int p0, .int p1] : List Value).toArray below meth c s.heap [] 0 0 (MQ below (vp_Sl Q) ([.int p0, .int p1] : List Value).toArray s 0 0 (fun _ => False)) (F0 m 5 ls []) := by
    intro z5
    induction z5 with
    | zero => intro l0 l1 l2 l4 h; unfold wp_X10_choose_h5 at h; exact h.elim
    | succ z5 k5 =>
      intro l0 l1 l2 l4 h ls hl
      unfold wp_X10_choose_h5 at h
      refine lv_iload hx hb dX10_choose_5 (lv_at hl 3 rfl) ?_
      refine lv_iload_n hx hb dX10_choose_7 rfl (lv_at hl 1 rfl) ?_
      refine lv_icmp_ge (tgt := 31) hx hb dX10_choose_8 (by decide) (fun c1 => ?_) (fun c1 => ?_)
      · replace h := h.1 c1
        refine lv_lload_n hx hb dX10_choose_31 rfl (lv_at hl 2 rfl) ?_
        exact W.lret (v := l2) hx hb hr (fun t ht hW => ⟨_, rfl, h, ht⟩) (fun _ h => by cases h) dX10_choose_32
      · replace h := h.2 c1
        refine lv_lload_n hx hb dX10_choose_11 rfl (lv_at hl 2 rfl) ?_
        refine lv_iload_n hx hb dX10_choose_12 rfl (lv_at hl 0 rfl) ?_
        refine lv_iload hx hb dX10_choose_13 (lv_at hl 3 rfl) ?_
        refine lv_isub hx hb dX10_choose_15 ?_
        refine lv_i2l (v := (((l0 - l4) : Int32).toInt64)) hx hb dX10_choose_16 rfl ?_
        refine lv_lmul hx hb dX10_choose_17 ?_
        refine lv_iload hx hb dX10_choose_18 (lv_at hl 3 rfl) ?_
        refine lv_iconst (v := 1) hx hb dX10_choose_20 (by decide) ?_
        refine lv_iadd hx hb dX10_choose_21 ?_
        refine lv_i2l (v := (((l4 + 1) : Int32).toInt64)) hx hb dX10_choose_22 rfl ?_
        refine lv_ldiv hx hb dX10_choose_23 h.1 ?_
        replace h := h.2
        refine lv_topl (fun x2 ex2 => ?_)
        replace h := h x2 ex2
        refine lv_lstore_n (lv' := [(2, .long x2), (0, .int l0), (1, .int l1), (4, .int l4)]) hx hb dX10_choose_24 rfl hl (by decide) rfl (fun ls hl => ?_)
        obtain ⟨x3, ex3⟩ : ∃ y : Int32, y = l4 + 1 := ⟨_, rfl⟩
        replace h := h x3 ex3
        refine lv_iinc (v := x3) (lv' := [(4, .int x3), (2, .long x2), (0, .int l0), (1, .int l1)]) hx hb dX10_choose_25 hl (k := 3) rfl (by rw [ex3]; rfl) (by decide) rfl (fun ls hl => ?_)
        refine lv_goto (tgt := 5) hx hb dX10_choose_28 (by decide) ?_
        exact k5 l0 l1 x2 x3 h ls (lv_sub hl [2, 3, 1, 0] rfl)
  have hl := lv_entry ([.int p0, .int p1]) (n := 5) (Nat.le_of_ble_eq_true rfl)
  rw [lg_entry_eq]
  generalize (lg_sl ([.int p0, .int p1]) ++ List.replicate (5 - (lg_sl ([.int p0, .int p1])).length) Slot.unset).toArray = ls at hl ⊢
  have hl : lv_has ls 5 [(0, .int p0), (1, .int p1)] := hl
  refine lv_lconst (v := 1) hx hb dX10_choose_0 (by decide) ?_
  refine lv_lstore_n (lv' := [(2, .long 1), (0, .int p0), (1, .int p1)]) hx hb dX10_choose_1 rfl hl (by decide) rfl (fun ls hl => ?_)
  refine lv_iconst (v := 0) hx hb dX10_choose_2 (by decide) ?_
  refine lv_istore (lv' := [(4, .int 0), (2, .long 1), (0, .int p0), (1, .int p1)]) hx hb dX10_choose_3 hl (by decide) rfl (fun ls hl => ?_)
  obtain ⟨k4, h⟩ := h
  exact w5 k4 p0 p1 1 0 h ls (lv_sub hl [2, 3, 1, 0] rfl)

def wp_X10_common_h4 (Q : Int32 → Prop) : Nat → Int32 → Int32 → Prop
  | 0, _, _ => False
  | z4 + 1, l2, l3 => (l3 = 0 → (Q l2)) ∧ (¬ l3 = 0 → ((¬ (l3 : Int32) = 0) ∧ ∀ x2 : Int32, x2 = (l2 - l2 / l3 * l3) → (wp_X10_common_h4 Q z4) l3 x2))
def wp_X10_common (p0 : Int32) (p1 : Int32) (Q : Int32 → Prop) : Prop := ∃ k3 : Nat, wp_X10_common_h4 Q k3 p0 p1
abbrev rmX10_common : Room := { frames := 0, cells := 0, slots := 0, locals := 0 }
set_option maxHeartbeats 4000000 in
set_option maxRecDepth 100000 in
theorem c_X10_common (l : Launch) (p0 : Int32) (p1 : Int32) (Q : Int32 → Prop) (h : wp_X10_common p0 p1 Q) : Met l yX10_common wsX10_common (rmX10_common) (va_Pc [.int p0, .int p1] (fun U => nW U)) (vp_Si Q) 0 0 (fun _ => False) := by
  unfold wp_X10_common at h
  refine Met.ofW (cc := cX10_common) (maxL := 5) (ret := (some .int)) (by decide) rfl ?_
  intro p e s m args below meth c s₁ B hml hv
  obtain ⟨rfl, hN⟩ := hv
  have hx := B.exec
  have hb := B.bytes
  have hr := B.returns
  have hts := atoms_spec (ws := wsX10_common) B.pre
  have hown : s.vm.findClass RX10 = some m.cls := findClass_of_methodNamed B.named
  have hlocks := B.notSynchronized
  have w4 : ∀ (z4 : Nat) (l2 : Int32) (l3 : Int32), wp_X10_common_h4 Q z4 l2 l3 → ∀ (ls : Array Slot), lv_has ls 5 [(2, .int l2), (3, .int l3)] → W p l e (headSpec wsX10_common (rmX10_common)).room s m ([.int p0, .int p1] : List Value).toArray below meth c s.heap [] 0 0 (MQ below (vp_Si Q) ([.int p0, .int p1] : List Value).toArray s 0 0 (fun _ => False)) (F0 m 4 ls []) := by
    intro z4
    induction z4 with
    | zero => intro l2 l3 h; unfold wp_X10_common_h4 at h; exact h.elim
    | succ z4 k4 =>
      intro l2 l3 h ls hl
      unfold wp_X10_common_h4 at h
      refine lv_iload_n hx hb dX10_common_4 rfl (lv_at hl 1 rfl) ?_
      refine lv_if_eq (tgt := 21) hx hb dX10_common_5 (by decide) (fun c1 => ?_) (fun c1 => ?_)
      · replace h := h.1 c1
        refine lv_iload_n hx hb dX10_common_21 rfl (lv_at hl 0 rfl) ?_
        exact W.iret (v := l2) hx hb hr (fun t ht hW => ⟨_, rfl, h, ht⟩) (fun _ h => by cases h) dX10_common_22
      · replace h := h.2 c1
        refine lv_iload_n hx hb dX10_common_8 rfl (lv_at hl 0 rfl) ?_
        refine lv_iload_n hx hb dX10_common_9 rfl (lv_at hl 1 rfl) ?_
        refine lv_irem hx hb dX10_common_10 h.1 ?_
        replace h := h.2
        refine lv_topi (fun x2 ex2 => ?_)
        replace h := h x2 ex2
        refine lv_istore (lv' := [(4, .int x2), (2, .int l2), (3, .int l3)]) hx hb dX10_common_11 hl (by decide) rfl (fun ls hl => ?_)
        refine lv_iload_n hx hb dX10_common_13 rfl (lv_at hl 2 rfl) ?_
        refine lv_istore_n (lv' := [(2, .int l3), (4, .int x2), (3, .int l3)]) hx hb dX10_common_14 rfl hl (by decide) rfl (fun ls hl => ?_)
        refine lv_iload hx hb dX10_common_15 (lv_at hl 1 rfl) ?_
        refine lv_istore_n (lv' := [(3, .int x2), (2, .int l3), (4, .int x2)]) hx hb dX10_common_17 rfl hl (by decide) rfl (fun ls hl => ?_)
        refine lv_goto (tgt := 4) hx hb dX10_common_18 (by decide) ?_
        exact k4 l3 x2 h ls (lv_sub hl [1, 0] rfl)
  have hl := lv_entry ([.int p0, .int p1]) (n := 5) (Nat.le_of_ble_eq_true rfl)
  rw [lg_entry_eq]
  generalize (lg_sl ([.int p0, .int p1]) ++ List.replicate (5 - (lg_sl ([.int p0, .int p1])).length) Slot.unset).toArray = ls at hl ⊢
  have hl : lv_has ls 5 [(0, .int p0), (1, .int p1)] := hl
  refine lv_iload_n hx hb dX10_common_0 rfl (lv_at hl 0 rfl) ?_
  refine lv_istore_n (lv' := [(2, .int p0), (0, .int p0), (1, .int p1)]) hx hb dX10_common_1 rfl hl (by decide) rfl (fun ls hl => ?_)
  refine lv_iload_n hx hb dX10_common_2 rfl (lv_at hl 2 rfl) ?_
  refine lv_istore_n (lv' := [(3, .int p1), (2, .int p0), (0, .int p0), (1, .int p1)]) hx hb dX10_common_3 rfl hl (by decide) rfl (fun ls hl => ?_)
  obtain ⟨k3, h⟩ := h
  exact w4 k3 p0 p1 h ls (lv_sub hl [1, 0] rfl)

def wp_X10_necklacesOf_j46 (L5 : Int32 → Int32 → Int64 → Int32 → Prop) (Q : Int64 → Prop) (l0 : Int32) (l1 : Int32) (l4 : Int32) (s0 : Int64) (s1 : Int64) : Prop := ∀ x1 : Int64, x1 = (s0 + s1) → ∀ x2 : Int32, x2 = l4 + 1 → L5 l0 l1 x1 x2
def wp_X10_necklacesOf_h5 (Q : Int64 → Prop) : Nat → Int32 → Int32 → Int64 → Int32 → Prop
  | 0, _, _, _, _ => False
  | z5 + 1, l0, l1, l2, l4 => (l0 ≤ l4 → ((¬ ((l0.toInt64) : Int64) = 0) ∧ Q (l2 / (l0.toInt64)))) ∧ (¬ l0 ≤ l4 → (wp_X10_common l0 l4 fun (r4 : Int32) => (¬ (r4 : Int32) = 0) ∧ ∀ x5 : Int32, x5 = (l0 / r4) → (¬ (x5 : Int32) = 0) ∧ (¬ (l1 - l1 / x5 * x5) = 0 → (wp_X10_necklacesOf_j46 (wp_X10_necklacesOf_h5 Q z5) Q l0 l1 l4 l2 0)) ∧ ((l1 - l1 / x5 * x5) = 0 → ((¬ (x5 : Int32) = 0) ∧ wp_X10_choose r4 (l1 / x5) fun (r7 : Int64) => wp_X10_necklacesOf_j46 (wp_X10_necklacesOf_h5 Q z5) Q l0 l1 l4 l2 r7))))
def wp_X10_necklacesOf (p0 : Int32) (p1 : Int32) (Q : Int64 → Prop) : Prop := ∃ k8 : Nat, wp_X10_necklacesOf_h5 Q k8 p0 p1 0 0
abbrev rmX10_necklacesOf : Room := { frames := 1, cells := 0, slots := 0, locals := 24 }
set_option maxHeartbeats 4000000 in
set_option maxRecDepth 100000 in
theorem c_X10_necklacesOf (l : Launch) (p0 : Int32) (p1 : Int32) (Q : Int64 → Prop) (h : wp_X10_necklacesOf p0 p1 Q) : Met l yX10_necklacesOf wsX10_necklacesOf (rmX10_necklacesOf) (va_Pc [.int p0, .int p1] (fun U => nW U)) (vp_Sl Q) 0 0 (fun _ => False) := by
  unfold wp_X10_necklacesOf at h
  refine Met.ofW (cc := cX10_necklacesOf) (maxL := 7) (ret := (some .long)) (by decide) rfl ?_
  intro p e s m args below meth c s₁ B hml hv
  obtain ⟨rfl, hN⟩ := hv
  have hx := B.exec
  have hb := B.bytes
  have hr := B.returns
  have hts := atoms_spec (ws := wsX10_necklacesOf) B.pre
  have hown : s.vm.findClass RX10 = some m.cls := findClass_of_methodNamed B.named
  have hlocks := B.notSynchronized
  have w5 : ∀ (z5 : Nat) (l0 : Int32) (l1 : Int32) (l2 : Int64) (l4 : Int32), wp_X10_necklacesOf_h5 Q z5 l0 l1 l2 l4 → ∀ (ls : Array Slot), lv_has ls 7 [(0, .int l0), (1, .int l1), (2, .long l2), (4, .int l4)] → W p l e (headSpec wsX10_necklacesOf (rmX10_necklacesOf)).room s m ([.int p0, .int p1] : List Value).toArray below meth c s.heap [] 0 0 (MQ below (vp_Sl Q) ([.int p0, .int p1] : List Value).toArray s 0 0 (fun _ => False)) (F0 m 5 ls []) := by
    intro z5
    induction z5 with
    | zero => intro l0 l1 l2 l4 h; unfold wp_X10_necklacesOf_h5 at h; exact h.elim
    | succ z5 k5 =>
      have w46 : ∀ (l0 : Int32) (l1 : Int32) (l4 : Int32) (s0 : Int64) (s1 : Int64), wp_X10_necklacesOf_j46 (wp_X10_necklacesOf_h5 Q z5) Q l0 l1 l4 s0 s1 → ∀ (ls : Array Slot), lv_has ls 7 [(0, .int l0), (1, .int l1), (4, .int l4)] → W p l e (headSpec wsX10_necklacesOf (rmX10_necklacesOf)).room s m ([.int p0, .int p1] : List Value).toArray below meth c s.heap [] 0 0 (MQ below (vp_Sl Q) ([.int p0, .int p1] : List Value).toArray s 0 0 (fun _ => False)) (F0 m 46 ls [.long s1, .long s0]) := by
        intro l0 l1 l4 s0 s1 h ls hl
        unfold wp_X10_necklacesOf_j46 at h
        refine lv_ladd hx hb dX10_necklacesOf_46 ?_
        refine lv_topl (fun x1 ex1 => ?_)
        replace h := h x1 ex1
        refine lv_lstore_n (lv' := [(2, .long x1), (0, .int l0), (1, .int l1), (4, .int l4)]) hx hb dX10_necklacesOf_47 rfl hl (by decide) rfl (fun ls hl => ?_)
        obtain ⟨x2, ex2⟩ : ∃ y : Int32, y = l4 + 1 := ⟨_, rfl⟩
        replace h := h x2 ex2
        refine lv_iinc (v := x2) (lv' := [(4, .int x2), (2, .long x1), (0, .int l0), (1, .int l1)]) hx hb dX10_necklacesOf_48 hl (k := 3) rfl (by rw [ex2]; rfl) (by decide) rfl (fun ls hl => ?_)
        refine lv_goto (tgt := 5) hx hb dX10_necklacesOf_51 (by decide) ?_
        exact k5 l0 l1 x1 x2 h ls (lv_sub hl [2, 3, 1, 0] rfl)
      intro l0 l1 l2 l4 h ls hl
      unfold wp_X10_necklacesOf_h5 at h
      refine lv_iload hx hb dX10_necklacesOf_5 (lv_at hl 3 rfl) ?_
      refine lv_iload_n hx hb dX10_necklacesOf_7 rfl (lv_at hl 0 rfl) ?_
      refine lv_icmp_ge (tgt := 54) hx hb dX10_necklacesOf_8 (by decide) (fun c3 => ?_) (fun c3 => ?_)
      · replace h := h.1 c3
        refine lv_lload_n hx hb dX10_necklacesOf_54 rfl (lv_at hl 2 rfl) ?_
        refine lv_iload_n hx hb dX10_necklacesOf_55 rfl (lv_at hl 0 rfl) ?_
        refine lv_i2l (v := (l0.toInt64)) hx hb dX10_necklacesOf_56 rfl ?_
        refine lv_ldiv hx hb dX10_necklacesOf_57 h.1 ?_
        replace h := h.2
        exact W.lret (v := (l2 / (l0.toInt64))) hx hb hr (fun t ht hW => ⟨_, rfl, h, ht⟩) (fun _ h => by cases h) dX10_necklacesOf_58
      · replace h := h.2 c3
        refine lv_iload_n hx hb dX10_necklacesOf_11 rfl (lv_at hl 0 rfl) ?_
        refine lv_iload hx hb dX10_necklacesOf_12 (lv_at hl 3 rfl) ?_
        refine vs_calli (va_runS (As := [.int l0, .int l4]) (rest := []) ⟨hx, hb, hml, hown, hts⟩ (c_X10_common l l0 l4 _ h) (va_cwS 2 hts gX10_necklacesOf_X10_common rfl rfl rfl (by decide +kernel) ⟨Nat.le_of_ble_eq_true rfl, Nat.le_of_ble_eq_true rfl⟩) ⟨fun a U g mk q => ⟨q.1, nW_call q.2⟩, fun U hU hW => ⟨rfl, nW_warm hW hN⟩⟩ rfl rfl hl.1 rfl (lv_room (Nat.le_of_ble_eq_true rfl)) dX10_necklacesOf_14 ⟨Nat.le_of_ble_eq_true rfl, Nat.le_of_ble_eq_true rfl⟩) (fun r4 h => ?_)
        refine lv_istore (lv' := [(5, .int r4), (0, .int l0), (1, .int l1), (2, .long l2), (4, .int l4)]) hx hb dX10_necklacesOf_17 hl (by decide) rfl (fun ls hl => ?_)
        refine lv_iload_n hx hb dX10_necklacesOf_19 rfl (lv_at hl 1 rfl) ?_
        refine lv_iload hx hb dX10_necklacesOf_20 (lv_at hl 0 rfl) ?_
        refine lv_idiv hx hb dX10_necklacesOf_22 h.1 ?_
        replace h := h.2
        refine lv_topi (fun x5 ex5 => ?_)
        replace h := h x5 ex5
        refine lv_istore (lv' := [(6, .int x5), (5, .int r4), (0, .int l0), (1, .int l1), (2, .long l2), (4, .int l4)]) hx hb dX10_necklacesOf_23 hl (by decide) rfl (fun ls hl => ?_)
        refine lv_lload_n hx hb dX10_necklacesOf_25 rfl (lv_at hl 4 rfl) ?_
        refine lv_iload_n hx hb dX10_necklacesOf_26 rfl (lv_at hl 3 rfl) ?_
        refine lv_iload hx hb dX10_necklacesOf_27 (lv_at hl 0 rfl) ?_
        refine lv_irem hx hb dX10_necklacesOf_29 h.1 ?_
        replace h := h.2
        refine lv_if_ne (tgt := 45) hx hb dX10_necklacesOf_30 (by decide) (fun c6 => ?_) (fun c6 => ?_)
        · replace h := h.1 c6
          refine lv_lconst (v := 0) hx hb dX10_necklacesOf_45 (by decide) ?_
          exact w46 l0 l1 l4 l2 0 h ls (lv_sub hl [2, 3, 5] rfl)
        · replace h := h.2 c6
          refine lv_iload hx hb dX10_necklacesOf_33 (lv_at hl 1 rfl) ?_
          refine lv_iload_n hx hb dX10_necklacesOf_35 rfl (lv_at hl 3 rfl) ?_
          refine lv_iload hx hb dX10_necklacesOf_36 (lv_at hl 0 rfl) ?_
          refine lv_idiv hx hb dX10_necklacesOf_38 h.1 ?_
          replace h := h.2
          refine vs_calll (va_runS (As := [.int r4, .int (l1 / x5)]) (rest := [.long l2]) ⟨hx, hb, hml, hown, hts⟩ (c_X10_choose l r4 (l1 / x5) _ h) (va_cwS 2 hts gX10_necklacesOf_X10_choose rfl rfl rfl (by decide +kernel) ⟨Nat.le_of_ble_eq_true rfl, Nat.le_of_ble_eq_true rfl⟩) ⟨fun a U g mk q => ⟨q.1, nW_call q.2⟩, fun U hU hW => ⟨rfl, nW_warm hW hN⟩⟩ rfl rfl hl.1 rfl (lv_room (Nat.le_of_ble_eq_true rfl)) dX10_necklacesOf_39 ⟨Nat.le_of_ble_eq_true rfl, Nat.le_of_ble_eq_true rfl⟩) (fun r7 h => ?_)
          refine lv_goto (tgt := 46) hx hb dX10_necklacesOf_42 (by decide) ?_
          exact w46 l0 l1 l4 l2 r7 h ls (lv_sub hl [2, 3, 5] rfl)
  have hl := lv_entry ([.int p0, .int p1]) (n := 7) (Nat.le_of_ble_eq_true rfl)
  rw [lg_entry_eq]
  generalize (lg_sl ([.int p0, .int p1]) ++ List.replicate (7 - (lg_sl ([.int p0, .int p1])).length) Slot.unset).toArray = ls at hl ⊢
  have hl : lv_has ls 7 [(0, .int p0), (1, .int p1)] := hl
  refine lv_lconst (v := 0) hx hb dX10_necklacesOf_0 (by decide) ?_
  refine lv_lstore_n (lv' := [(2, .long 0), (0, .int p0), (1, .int p1)]) hx hb dX10_necklacesOf_1 rfl hl (by decide) rfl (fun ls hl => ?_)
  refine lv_iconst (v := 0) hx hb dX10_necklacesOf_2 (by decide) ?_
  refine lv_istore (lv' := [(4, .int 0), (2, .long 0), (0, .int p0), (1, .int p1)]) hx hb dX10_necklacesOf_3 hl (by decide) rfl (fun ls hl => ?_)
  obtain ⟨k8, h⟩ := h
  exact w5 k8 p0 p1 0 0 h ls (lv_sub hl [2, 3, 1, 0] rfl)

def wp_X10_mirrored_j51 (Q : Int64 → Prop) (s0 : Int64) : Prop := Q s0
def wp_X10_mirrored (p0 : Int32) (p1 : Int32) (Q : Int64 → Prop) : Prop := (¬ (2 : Int32) = 0) ∧ (¬ (p0 - p0 / 2 * 2) = 1 → ((¬ (2 : Int32) = 0) ∧ (¬ (p1 - p1 / 2 * 2) = 1 → ((¬ (2 : Int32) = 0) ∧ (¬ (2 : Int32) = 0) ∧ wp_X10_choose (p0 / 2) (p1 / 2) fun (r3 : Int64) => wp_X10_mirrored_j51 Q r3)) ∧ ((p1 - p1 / 2 * 2) = 1 → ((¬ (2 : Int32) = 0) ∧ (¬ (2 : Int32) = 0) ∧ wp_X10_choose ((p0 / 2) - 1) (p1 / 2) fun (r4 : Int64) => wp_X10_mirrored_j51 Q r4)))) ∧ ((p0 - p0 / 2 * 2) = 1 → ((¬ (2 : Int32) = 0) ∧ (¬ (2 : Int32) = 0) ∧ wp_X10_choose ((p0 - 1) / 2) (p1 / 2) fun (r5 : Int64) => wp_X10_mirrored_j51 Q r5))
abbrev rmX10_mirrored : Room := { frames := 1, cells := 0, slots := 0, locals := 24 }
set_option maxHeartbeats 4000000 in
set_option maxRecDepth 100000 in
theorem c_X10_mirrored (l : Launch) (p0 : Int32) (p1 : Int32) (Q : Int64 → Prop) (h : wp_X10_mirrored p0 p1 Q) : Met l yX10_mirrored wsX10_mirrored (rmX10_mirrored) (va_Pc [.int p0, .int p1] (fun U => nW U)) (vp_Sl Q) 0 0 (fun _ => False) := by
  unfold wp_X10_mirrored at h
  refine Met.ofW (cc := cX10_mirrored) (maxL := 2) (ret := (some .long)) (by decide) rfl ?_
  intro p e s m args below meth c s₁ B hml hv
  obtain ⟨rfl, hN⟩ := hv
  have hx := B.exec
  have hb := B.bytes
  have hr := B.returns
  have hts := atoms_spec (ws := wsX10_mirrored) B.pre
  have hown : s.vm.findClass RX10 = some m.cls := findClass_of_methodNamed B.named
  have hlocks := B.notSynchronized
  have w51 : ∀ (s0 : Int64), wp_X10_mirrored_j51 Q s0 → ∀ (ls : Array Slot), lv_has ls 2 [] → W p l e (headSpec wsX10_mirrored (rmX10_mirrored)).room s m ([.int p0, .int p1] : List Value).toArray below meth c s.heap [] 0 0 (MQ below (vp_Sl Q) ([.int p0, .int p1] : List Value).toArray s 0 0 (fun _ => False)) (F0 m 51 ls [.long s0]) := by
    intro s0 h ls hl
    unfold wp_X10_mirrored_j51 at h
    exact W.lret (v := s0) hx hb hr (fun t ht hW => ⟨_, rfl, h, ht⟩) (fun _ h => by cases h) dX10_mirrored_51
  have hl := lv_entry ([.int p0, .int p1]) (n := 2) (Nat.le_of_ble_eq_true rfl)
  rw [lg_entry_eq]
  generalize (lg_sl ([.int p0, .int p1]) ++ List.replicate (2 - (lg_sl ([.int p0, .int p1])).length) Slot.unset).toArray = ls at hl ⊢
  have hl : lv_has ls 2 [(0, .int p0), (1, .int p1)] := hl
  refine lv_iload_n hx hb dX10_mirrored_0 rfl (lv_at hl 0 rfl) ?_
  refine lv_iconst (v := 2) hx hb dX10_mirrored_1 (by decide) ?_
  refine lv_irem hx hb dX10_mirrored_2 h.1 ?_
  replace h := h.2
  refine lv_iconst (v := 1) hx hb dX10_mirrored_3 (by decide) ?_
  refine lv_icmp_ne (tgt := 21) hx hb dX10_mirrored_4 (by decide) (fun c1 => ?_) (fun c1 => ?_)
  · replace h := h.1 c1
    refine lv_iload_n hx hb dX10_mirrored_21 rfl (lv_at hl 1 rfl) ?_
    refine lv_iconst (v := 2) hx hb dX10_mirrored_22 (by decide) ?_
    refine lv_irem hx hb dX10_mirrored_23 h.1 ?_
    replace h := h.2
    refine lv_iconst (v := 1) hx hb dX10_mirrored_24 (by decide) ?_
    refine lv_icmp_ne (tgt := 42) hx hb dX10_mirrored_25 (by decide) (fun c2 => ?_) (fun c2 => ?_)
    · replace h := h.1 c2
      refine lv_iload_n hx hb dX10_mirrored_42 rfl (lv_at hl 0 rfl) ?_
      refine lv_iconst (v := 2) hx hb dX10_mirrored_43 (by decide) ?_
      refine lv_idiv hx hb dX10_mirrored_44 h.1 ?_
      replace h := h.2
      refine lv_iload_n hx hb dX10_mirrored_45 rfl (lv_at hl 1 rfl) ?_
      refine lv_iconst (v := 2) hx hb dX10_mirrored_46 (by decide) ?_
      refine lv_idiv hx hb dX10_mirrored_47 h.1 ?_
      replace h := h.2
      refine vs_calll (va_runS (As := [.int (p0 / 2), .int (p1 / 2)]) (rest := []) ⟨hx, hb, hml, hown, hts⟩ (c_X10_choose l (p0 / 2) (p1 / 2) _ h) (va_cwS 2 hts gX10_mirrored_X10_choose rfl rfl rfl (by decide +kernel) ⟨Nat.le_of_ble_eq_true rfl, Nat.le_of_ble_eq_true rfl⟩) ⟨fun a U g mk q => ⟨q.1, nW_call q.2⟩, fun U hU hW => ⟨rfl, nW_warm hW hN⟩⟩ rfl rfl hl.1 rfl (lv_room (Nat.le_of_ble_eq_true rfl)) dX10_mirrored_48 ⟨Nat.le_of_ble_eq_true rfl, Nat.le_of_ble_eq_true rfl⟩) (fun r3 h => ?_)
      exact w51 r3 h ls (lv_sub hl [] rfl)
    · replace h := h.2 c2
      refine lv_iload_n hx hb dX10_mirrored_28 rfl (lv_at hl 0 rfl) ?_
      refine lv_iconst (v := 2) hx hb dX10_mirrored_29 (by decide) ?_
      refine lv_idiv hx hb dX10_mirrored_30 h.1 ?_
      replace h := h.2
      refine lv_iconst (v := 1) hx hb dX10_mirrored_31 (by decide) ?_
      refine lv_isub hx hb dX10_mirrored_32 ?_
      refine lv_iload_n hx hb dX10_mirrored_33 rfl (lv_at hl 1 rfl) ?_
      refine lv_iconst (v := 2) hx hb dX10_mirrored_34 (by decide) ?_
      refine lv_idiv hx hb dX10_mirrored_35 h.1 ?_
      replace h := h.2
      refine vs_calll (va_runS (As := [.int ((p0 / 2) - 1), .int (p1 / 2)]) (rest := []) ⟨hx, hb, hml, hown, hts⟩ (c_X10_choose l ((p0 / 2) - 1) (p1 / 2) _ h) (va_cwS 2 hts gX10_mirrored_X10_choose rfl rfl rfl (by decide +kernel) ⟨Nat.le_of_ble_eq_true rfl, Nat.le_of_ble_eq_true rfl⟩) ⟨fun a U g mk q => ⟨q.1, nW_call q.2⟩, fun U hU hW => ⟨rfl, nW_warm hW hN⟩⟩ rfl rfl hl.1 rfl (lv_room (Nat.le_of_ble_eq_true rfl)) dX10_mirrored_36 ⟨Nat.le_of_ble_eq_true rfl, Nat.le_of_ble_eq_true rfl⟩) (fun r4 h => ?_)
      refine lv_goto (tgt := 51) hx hb dX10_mirrored_39 (by decide) ?_
      exact w51 r4 h ls (lv_sub hl [] rfl)
  · replace h := h.2 c1
    refine lv_iload_n hx hb dX10_mirrored_7 rfl (lv_at hl 0 rfl) ?_
    refine lv_iconst (v := 1) hx hb dX10_mirrored_8 (by decide) ?_
    refine lv_isub hx hb dX10_mirrored_9 ?_
    refine lv_iconst (v := 2) hx hb dX10_mirrored_10 (by decide) ?_
    refine lv_idiv hx hb dX10_mirrored_11 h.1 ?_
    replace h := h.2
    refine lv_iload_n hx hb dX10_mirrored_12 rfl (lv_at hl 1 rfl) ?_
    refine lv_iconst (v := 2) hx hb dX10_mirrored_13 (by decide) ?_
    refine lv_idiv hx hb dX10_mirrored_14 h.1 ?_
    replace h := h.2
    refine vs_calll (va_runS (As := [.int ((p0 - 1) / 2), .int (p1 / 2)]) (rest := []) ⟨hx, hb, hml, hown, hts⟩ (c_X10_choose l ((p0 - 1) / 2) (p1 / 2) _ h) (va_cwS 2 hts gX10_mirrored_X10_choose rfl rfl rfl (by decide +kernel) ⟨Nat.le_of_ble_eq_true rfl, Nat.le_of_ble_eq_true rfl⟩) ⟨fun a U g mk q => ⟨q.1, nW_call q.2⟩, fun U hU hW => ⟨rfl, nW_warm hW hN⟩⟩ rfl rfl hl.1 rfl (lv_room (Nat.le_of_ble_eq_true rfl)) dX10_mirrored_15 ⟨Nat.le_of_ble_eq_true rfl, Nat.le_of_ble_eq_true rfl⟩) (fun r5 h => ?_)
    refine lv_goto (tgt := 51) hx hb dX10_mirrored_18 (by decide) ?_
    exact w51 r5 h ls (lv_sub hl [] rfl)
