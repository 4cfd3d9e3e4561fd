/-- the links among nest mates -/
def nestL : List Cond := [Cond.fieldLinkNest RX9 129 "TilingBeats$Text" "count" "I" "TilingBeats",
  Cond.fieldLinkNest RX9 79 "TilingBeats$Text" "beats" "I" "TilingBeats",
  Cond.fieldLinkNest RX9 80 "TilingBeats$Text" "set" "I" "TilingBeats",
  Cond.fieldLinkNest RX9 78 "TilingBeats$Text" "faultAt" "I" "TilingBeats",
  Cond.fieldLinkNest RX9 133 "TilingBeats$Past" "count" "I" "TilingBeats",
  Cond.fieldLinkNest RX9 132 "TilingBeats$Ear" "count" "I" "TilingBeats",
  Cond.fieldLinkNest RX9 166 "TilingBeats$Images" "beats" "[I" "TilingBeats",
  Cond.fieldLinkNest RX9 170 "TilingBeats$Images" "rhythms" "[I" "TilingBeats",
  Cond.fieldLinkNest RX9 220 "TilingBeats$Images" "draws" "[I" "TilingBeats",
  Cond.methodLinkNest RX9 9 yX7_init "TilingBeats",
  Cond.methodLinkNest RX9 18 yX5_init "TilingBeats",
  Cond.methodLinkNest RX9 25 yX1_init "TilingBeats",
  Cond.methodLinkNest RX9 32 yX8_init "TilingBeats",
  Cond.methodLinkNest RX9 41 yX3_init "TilingBeats",
  Cond.methodLinkNest RX3 11 yX8_init "TilingBeats",
  Cond.methodLinkNest RX9 48 yX2_init "TilingBeats",
  Cond.methodLinkNest RX9 67 yX7_append "TilingBeats",
  Cond.methodLinkNest RX9 71 yX7_read "TilingBeats",
  Cond.methodLinkNest RX7 54 yX6_full "TilingBeats",
  Cond.methodLinkNest RX9 75 yX7_clear "TilingBeats",
  Cond.methodLinkNest RX9 226 yX5_add "TilingBeats",
  Cond.methodLinkNest RX5 38 yX6_leftOver "TilingBeats",
  Cond.methodLinkNest RX9 87 yX1_clear "TilingBeats",
  Cond.methodLinkNest RX9 93 yX8_of "TilingBeats",
  Cond.methodLinkNest RX8 43 yX6_leftOver "TilingBeats",
  Cond.methodLinkNest RX8 58 yX6_bit "TilingBeats",
  Cond.methodLinkNest RX8 61 yX6_inverted "TilingBeats",
  Cond.methodLinkNest RX8 67 yX6_moved "TilingBeats",
  Cond.methodLinkNest RX9 96 yX6_period "TilingBeats",
  Cond.methodLinkNest RX9 101 yX4_value "TilingBeats",
  Cond.methodLinkNest RX4 9 yX6_bit "TilingBeats",
  Cond.methodLinkNest RX9 106 yX4_least "TilingBeats",
  Cond.methodLinkNest RX4 15 yX6_moved "TilingBeats",
  Cond.methodLinkNest RX9 109 yX4_leastTurn "TilingBeats",
  Cond.methodLinkNest RX9 186 yX6_evenly "TilingBeats",
  Cond.methodLinkNest RX9 223 yX4_later "TilingBeats",
  Cond.methodLinkNest RX4 40 yX6_leftOver "TilingBeats",
  Cond.methodLinkNest RX9 115 yX6_leastGap "TilingBeats",
  Cond.methodLinkNest RX9 118 yX6_greatestGap "TilingBeats",
  Cond.methodLinkNest RX9 125 yX3_of "TilingBeats",
  Cond.methodLinkNest RX3 39 yX6_full "TilingBeats",
  Cond.methodLinkNest RX3 44 yX8_of "TilingBeats",
  Cond.methodLinkNest RX9 126 yX3_sizeOf "TilingBeats",
  Cond.methodLinkNest RX9 135 yX8_at "TilingBeats",
  Cond.methodLinkNest RX9 142 yX6_turnsThatStrike "TilingBeats",
  Cond.methodLinkNest RX9 149 yX6_gapAt "TilingBeats",
  Cond.methodLinkNest RX9 152 yX6_moved "TilingBeats",
  Cond.methodLinkNest RX9 155 yX0_turned "TilingBeats",
  Cond.methodLinkNest RX0 24 yX6_leftOver "TilingBeats",
  Cond.methodLinkNest RX0 13 yX6_quotient "TilingBeats",
  Cond.methodLinkNest RX9 160 yX0_turnedOrMirrored "TilingBeats",
  Cond.methodLinkNest RX9 173 yX6_inverted "TilingBeats",
  Cond.methodLinkNest RX9 176 yX6_mirrored "TilingBeats",
  Cond.methodLinkNest RX9 183 yX6_bit "TilingBeats",
  Cond.methodLinkNest RX9 189 yX6_full "TilingBeats",
  Cond.methodLinkNest RX9 192 yX6_stretched "TilingBeats",
  Cond.methodLinkNest RX9 239 yX6_leftOver "TilingBeats",
  Cond.methodLinkNest RX9 199 yX5_stepBack "TilingBeats",
  Cond.methodLinkNest RX9 202 yX5_beatsThen "TilingBeats",
  Cond.methodLinkNest RX9 205 yX5_rhythmThen "TilingBeats",
  Cond.methodLinkNest RX9 208 yX1_add "TilingBeats",
  Cond.methodLinkNest RX9 212 yX1_fitting "TilingBeats",
  Cond.methodLinkNest RX1 27 yX6_full "TilingBeats",
  Cond.methodLinkNest RX1 33 yX6_turnsThatStrike "TilingBeats",
  Cond.methodLinkNest RX9 222 yX5_clear "TilingBeats"]
def nW (U : State) : Prop := ∀ w ∈ nestL, va_Nw w U
def nIs (w : Cond) : Bool := match w with
  | .fieldLinkNest _ _ _ _ _ _ => true
  | .methodLinkNest _ _ _ _ => true
  | _ => false
theorem nIs_all : ∀ w ∈ nestL, nIs w = true := by decide +kernel
theorem nOn_all : ∀ w ∈ nestL, w.onTables = true := by decide +kernel
theorem nW_call {U : State} {g : JFrame} {mk : MethodId} {a : Array Value} (h : nW U) : nW (U.calling g mk a) := fun w hw => va_Nw.same (u := U) (U := U.calling g mk a) (nOn_all w hw) rfl (h w hw)
theorem nW_warm {s U : State} (hW : s.WarmedH U.vm) (h : nW s) : nW U := by
  intro w hw
  have h1 := nIs_all w hw
  have h2 := h w hw
  cases w <;> first | exact va_Nw.warmF hW h2 | exact va_Nw.warmM hW h2 | (simp [nIs] at h1)

theorem nw_0 {U : State} (h : nW U) : va_Nw (Cond.fieldLinkNest RX9 129 "TilingBeats$Text" "count" "I" "TilingBeats") U := h _ (List.mem_of_getElem? (i := 0) rfl)
theorem nw_1 {U : State} (h : nW U) : va_Nw (Cond.fieldLinkNest RX9 79 "TilingBeats$Text" "beats" "I" "TilingBeats") U := h _ (List.mem_of_getElem? (i := 1) rfl)
theorem nw_2 {U : State} (h : nW U) : va_Nw (Cond.fieldLinkNest RX9 80 "TilingBeats$Text" "set" "I" "TilingBeats") U := h _ (List.mem_of_getElem? (i := 2) rfl)
theorem nw_3 {U : State} (h : nW U) : va_Nw (Cond.fieldLinkNest RX9 78 "TilingBeats$Text" "faultAt" "I" "TilingBeats") U := h _ (List.mem_of_getElem? (i := 3) rfl)
theorem nw_4 {U : State} (h : nW U) : va_Nw (Cond.fieldLinkNest RX9 133 "TilingBeats$Past" "count" "I" "TilingBeats") U := h _ (List.mem_of_getElem? (i := 4) rfl)
theorem nw_5 {U : State} (h : nW U) : va_Nw (Cond.fieldLinkNest RX9 132 "TilingBeats$Ear" "count" "I" "TilingBeats") U := h _ (List.mem_of_getElem? (i := 5) rfl)
theorem nw_6 {U : State} (h : nW U) : va_Nw (Cond.fieldLinkNest RX9 166 "TilingBeats$Images" "beats" "[I" "TilingBeats") U := h _ (List.mem_of_getElem? (i := 6) rfl)
theorem nw_7 {U : State} (h : nW U) : va_Nw (Cond.fieldLinkNest RX9 170 "TilingBeats$Images" "rhythms" "[I" "TilingBeats") U := h _ (List.mem_of_getElem? (i := 7) rfl)
theorem nw_8 {U : State} (h : nW U) : va_Nw (Cond.fieldLinkNest RX9 220 "TilingBeats$Images" "draws" "[I" "TilingBeats") U := h _ (List.mem_of_getElem? (i := 8) rfl)
theorem nw_9 {U : State} (h : nW U) : va_Nw (Cond.methodLinkNest RX9 9 yX7_init "TilingBeats") U := h _ (List.mem_of_getElem? (i := 9) rfl)
theorem nw_10 {U : State} (h : nW U) : va_Nw (Cond.methodLinkNest RX9 18 yX5_init "TilingBeats") U := h _ (List.mem_of_getElem? (i := 10) rfl)
theorem nw_11 {U : State} (h : nW U) : va_Nw (Cond.methodLinkNest RX9 25 yX1_init "TilingBeats") U := h _ (List.mem_of_getElem? (i := 11) rfl)
theorem nw_12 {U : State} (h : nW U) : va_Nw (Cond.methodLinkNest RX9 32 yX8_init "TilingBeats") U := h _ (List.mem_of_getElem? (i := 12) rfl)
theorem nw_13 {U : State} (h : nW U) : va_Nw (Cond.methodLinkNest RX9 41 yX3_init "TilingBeats") U := h _ (List.mem_of_getElem? (i := 13) rfl)
theorem nw_14 {U : State} (h : nW U) : va_Nw (Cond.methodLinkNest RX3 11 yX8_init "TilingBeats") U := h _ (List.mem_of_getElem? (i := 14) rfl)
theorem nw_15 {U : State} (h : nW U) : va_Nw (Cond.methodLinkNest RX9 48 yX2_init "TilingBeats") U := h _ (List.mem_of_getElem? (i := 15) rfl)
theorem nw_16 {U : State} (h : nW U) : va_Nw (Cond.methodLinkNest RX9 67 yX7_append "TilingBeats") U := h _ (List.mem_of_getElem? (i := 16) rfl)
theorem nw_17 {U : State} (h : nW U) : va_Nw (Cond.methodLinkNest RX9 71 yX7_read "TilingBeats") U := h _ (List.mem_of_getElem? (i := 17) rfl)
theorem nw_18 {U : State} (h : nW U) : va_Nw (Cond.methodLinkNest RX7 54 yX6_full "TilingBeats") U := h _ (List.mem_of_getElem? (i := 18) rfl)
theorem nw_19 {U : State} (h : nW U) : va_Nw (Cond.methodLinkNest RX9 75 yX7_clear "TilingBeats") U := h _ (List.mem_of_getElem? (i := 19) rfl)
theorem nw_20 {U : State} (h : nW U) : va_Nw (Cond.methodLinkNest RX9 226 yX5_add "TilingBeats") U := h _ (List.mem_of_getElem? (i := 20) rfl)
theorem nw_21 {U : State} (h : nW U) : va_Nw (Cond.methodLinkNest RX5 38 yX6_leftOver "TilingBeats") U := h _ (List.mem_of_getElem? (i := 21) rfl)
theorem nw_22 {U : State} (h : nW U) : va_Nw (Cond.methodLinkNest RX9 87 yX1_clear "TilingBeats") U := h _ (List.mem_of_getElem? (i := 22) rfl)
theorem nw_23 {U : State} (h : nW U) : va_Nw (Cond.methodLinkNest RX9 93 yX8_of "TilingBeats") U := h _ (List.mem_of_getElem? (i := 23) rfl)
theorem nw_24 {U : State} (h : nW U) : va_Nw (Cond.methodLinkNest RX8 43 yX6_leftOver "TilingBeats") U := h _ (List.mem_of_getElem? (i := 24) rfl)
theorem nw_25 {U : State} (h : nW U) : va_Nw (Cond.methodLinkNest RX8 58 yX6_bit "TilingBeats") U := h _ (List.mem_of_getElem? (i := 25) rfl)
theorem nw_26 {U : State} (h : nW U) : va_Nw (Cond.methodLinkNest RX8 61 yX6_inverted "TilingBeats") U := h _ (List.mem_of_getElem? (i := 26) rfl)
theorem nw_27 {U : State} (h : nW U) : va_Nw (Cond.methodLinkNest RX8 67 yX6_moved "TilingBeats") U := h _ (List.mem_of_getElem? (i := 27) rfl)
theorem nw_28 {U : State} (h : nW U) : va_Nw (Cond.methodLinkNest RX9 96 yX6_period "TilingBeats") U := h _ (List.mem_of_getElem? (i := 28) rfl)
theorem nw_29 {U : State} (h : nW U) : va_Nw (Cond.methodLinkNest RX9 101 yX4_value "TilingBeats") U := h _ (List.mem_of_getElem? (i := 29) rfl)
theorem nw_30 {U : State} (h : nW U) : va_Nw (Cond.methodLinkNest RX4 9 yX6_bit "TilingBeats") U := h _ (List.mem_of_getElem? (i := 30) rfl)
theorem nw_31 {U : State} (h : nW U) : va_Nw (Cond.methodLinkNest RX9 106 yX4_least "TilingBeats") U := h _ (List.mem_of_getElem? (i := 31) rfl)
theorem nw_32 {U : State} (h : nW U) : va_Nw (Cond.methodLinkNest RX4 15 yX6_moved "TilingBeats") U := h _ (List.mem_of_getElem? (i := 32) rfl)
theorem nw_33 {U : State} (h : nW U) : va_Nw (Cond.methodLinkNest RX9 109 yX4_leastTurn "TilingBeats") U := h _ (List.mem_of_getElem? (i := 33) rfl)
theorem nw_34 {U : State} (h : nW U) : va_Nw (Cond.methodLinkNest RX9 186 yX6_evenly "TilingBeats") U := h _ (List.mem_of_getElem? (i := 34) rfl)
theorem nw_35 {U : State} (h : nW U) : va_Nw (Cond.methodLinkNest RX9 223 yX4_later "TilingBeats") U := h _ (List.mem_of_getElem? (i := 35) rfl)
theorem nw_36 {U : State} (h : nW U) : va_Nw (Cond.methodLinkNest RX4 40 yX6_leftOver "TilingBeats") U := h _ (List.mem_of_getElem? (i := 36) rfl)
theorem nw_37 {U : State} (h : nW U) : va_Nw (Cond.methodLinkNest RX9 115 yX6_leastGap "TilingBeats") U := h _ (List.mem_of_getElem? (i := 37) rfl)
theorem nw_38 {U : State} (h : nW U) : va_Nw (Cond.methodLinkNest RX9 118 yX6_greatestGap "TilingBeats") U := h _ (List.mem_of_getElem? (i := 38) rfl)
theorem nw_39 {U : State} (h : nW U) : va_Nw (Cond.methodLinkNest RX9 125 yX3_of "TilingBeats") U := h _ (List.mem_of_getElem? (i := 39) rfl)
theorem nw_40 {U : State} (h : nW U) : va_Nw (Cond.methodLinkNest RX3 39 yX6_full "TilingBeats") U := h _ (List.mem_of_getElem? (i := 40) rfl)
theorem nw_41 {U : State} (h : nW U) : va_Nw (Cond.methodLinkNest RX3 44 yX8_of "TilingBeats") U := h _ (List.mem_of_getElem? (i := 41) rfl)
theorem nw_42 {U : State} (h : nW U) : va_Nw (Cond.methodLinkNest RX9 126 yX3_sizeOf "TilingBeats") U := h _ (List.mem_of_getElem? (i := 42) rfl)
theorem nw_43 {U : State} (h : nW U) : va_Nw (Cond.methodLinkNest RX9 135 yX8_at "TilingBeats") U := h _ (List.mem_of_getElem? (i := 43) rfl)
theorem nw_44 {U : State} (h : nW U) : va_Nw (Cond.methodLinkNest RX9 142 yX6_turnsThatStrike "TilingBeats") U := h _ (List.mem_of_getElem? (i := 44) rfl)
theorem nw_45 {U : State} (h : nW U) : va_Nw (Cond.methodLinkNest RX9 149 yX6_gapAt "TilingBeats") U := h _ (List.mem_of_getElem? (i := 45) rfl)
theorem nw_46 {U : State} (h : nW U) : va_Nw (Cond.methodLinkNest RX9 152 yX6_moved "TilingBeats") U := h _ (List.mem_of_getElem? (i := 46) rfl)
theorem nw_47 {U : State} (h : nW U) : va_Nw (Cond.methodLinkNest RX9 155 yX0_turned "TilingBeats") U := h _ (List.mem_of_getElem? (i := 47) rfl)
theorem nw_48 {U : State} (h : nW U) : va_Nw (Cond.methodLinkNest RX0 24 yX6_leftOver "TilingBeats") U := h _ (List.mem_of_getElem? (i := 48) rfl)
theorem nw_49 {U : State} (h : nW U) : va_Nw (Cond.methodLinkNest RX0 13 yX6_quotient "TilingBeats") U := h _ (List.mem_of_getElem? (i := 49) rfl)
theorem nw_50 {U : State} (h : nW U) : va_Nw (Cond.methodLinkNest RX9 160 yX0_turnedOrMirrored "TilingBeats") U := h _ (List.mem_of_getElem? (i := 50) rfl)
theorem nw_51 {U : State} (h : nW U) : va_Nw (Cond.methodLinkNest RX9 173 yX6_inverted "TilingBeats") U := h _ (List.mem_of_getElem? (i := 51) rfl)
theorem nw_52 {U : State} (h : nW U) : va_Nw (Cond.methodLinkNest RX9 176 yX6_mirrored "TilingBeats") U := h _ (List.mem_of_getElem? (i := 52) rfl)
theorem nw_53 {U : State} (h : nW U) : va_Nw (Cond.methodLinkNest RX9 183 yX6_bit "TilingBeats") U := h _ (List.mem_of_getElem? (i := 53) rfl)
theorem nw_54 {U : State} (h : nW U) : va_Nw (Cond.methodLinkNest RX9 189 yX6_full "TilingBeats") U := h _ (List.mem_of_getElem? (i := 54) rfl)
theorem nw_55 {U : State} (h : nW U) : va_Nw (Cond.methodLinkNest RX9 192 yX6_stretched "TilingBeats") U := h _ (List.mem_of_getElem? (i := 55) rfl)
theorem nw_56 {U : State} (h : nW U) : va_Nw (Cond.methodLinkNest RX9 239 yX6_leftOver "TilingBeats") U := h _ (List.mem_of_getElem? (i := 56) rfl)
theorem nw_57 {U : State} (h : nW U) : va_Nw (Cond.methodLinkNest RX9 199 yX5_stepBack "TilingBeats") U := h _ (List.mem_of_getElem? (i := 57) rfl)
theorem nw_58 {U : State} (h : nW U) : va_Nw (Cond.methodLinkNest RX9 202 yX5_beatsThen "TilingBeats") U := h _ (List.mem_of_getElem? (i := 58) rfl)
theorem nw_59 {U : State} (h : nW U) : va_Nw (Cond.methodLinkNest RX9 205 yX5_rhythmThen "TilingBeats") U := h _ (List.mem_of_getElem? (i := 59) rfl)
theorem nw_60 {U : State} (h : nW U) : va_Nw (Cond.methodLinkNest RX9 208 yX1_add "TilingBeats") U := h _ (List.mem_of_getElem? (i := 60) rfl)
theorem nw_61 {U : State} (h : nW U) : va_Nw (Cond.methodLinkNest RX9 212 yX1_fitting "TilingBeats") U := h _ (List.mem_of_getElem? (i := 61) rfl)
theorem nw_62 {U : State} (h : nW U) : va_Nw (Cond.methodLinkNest RX1 27 yX6_full "TilingBeats") U := h _ (List.mem_of_getElem? (i := 62) rfl)
theorem nw_63 {U : State} (h : nW U) : va_Nw (Cond.methodLinkNest RX1 33 yX6_turnsThatStrike "TilingBeats") U := h _ (List.mem_of_getElem? (i := 63) rfl)
theorem nw_64 {U : State} (h : nW U) : va_Nw (Cond.methodLinkNest RX9 222 yX5_clear "TilingBeats") U := h _ (List.mem_of_getElem? (i := 64) rfl)
section VSC
variable {p : Program} {l : Launch} {e : Env} {R : Room} {s : State} {m : MethodId} {args : Array Value} {below : List Frame} {meth : Method} {c : Code} {H : Heap} {locs : List Loc} {Q : State → Prop} {pc : Nat} {ls : Array Slot} {rest : List Value} {cells slots : Nat}
/-- behind a call that leaves the heap as it was -/
theorem vs_calli {post : Int32 → Prop} {a : Array Value} {st0 : List Value} (hr : va_Run p l e R s m args below meth c H locs cells slots 0 0 (F0 m pc ls st0) rest (vp_Si post a) (fun _ => False))
    (kk : ∀ r : Int32, post r → W p l e R s m args below meth c H locs cells slots Q (F0 m (pc + 3) ls (.int r :: rest))) : W p l e R s m args below meth c H locs cells slots Q (F0 m pc ls st0) := by
  intro T hT X
  obtain ⟨v, st₀, t, T', L, h0, X', hL, e1, e2, ⟨r, hv, hp, hh⟩, st⟩ := hr T hT X
  cases hv
  obtain ⟨t2, a1, b1⟩ := kk r hp T' (by rw [e1, hh, h0]) (Stand.forget X' (fun q h => (hL q h).elim))
  exact ⟨t2, st t2 a1, b1⟩
theorem vs_calll {post : Int64 → Prop} {a : Array Value} {st0 : List Value} (hr : va_Run p l e R s m args below meth c H locs cells slots 0 0 (F0 m pc ls st0) rest (vp_Sl post a) (fun _ => False))
    (kk : ∀ r : Int64, post r → W p l e R s m args below meth c H locs cells slots Q (F0 m (pc + 3) ls (.long r :: rest))) : W p l e R s m args below meth c H locs cells slots Q (F0 m pc ls st0) := by
  intro T hT X
  obtain ⟨v, st₀, t, T', L, h0, X', hL, e1, e2, ⟨r, hv, hp, hh⟩, st⟩ := hr T hT X
  cases hv
  obtain ⟨t2, a1, b1⟩ := kk r hp T' (by rw [e1, hh, h0]) (Stand.forget X' (fun q h => (hL q h).elim))
  exact ⟨t2, st t2 a1, b1⟩
end VSC
def jushr (x y : Int32) : Int32 := (x.toUInt32 >>> (y.toUInt32 &&& Int32.toUInt32 31)).toInt32
def isB (v : Int32) : Prop := narrow .boolean (.int v) = .int v
theorem isB0 : isB 0 := rfl
theorem isB1 : isB 1 := rfl
abbrev tyZ (cI cZ : ClassId) : List (ClassId × FieldType) := [(cI, .int), (cZ, .boolean)]

theorem sw_in {x : Int32} {n : Nat} (h1 : 0 ≤ x.toInt) (h2 : x.toInt < (n : Int)) : ∃ j : Nat, j < n ∧ x = Int32.ofNat j := by
  have hb := x.toInt_lt
  refine ⟨x.toInt.toNat, by omega, ?_⟩
  refine Int32.toInt_inj.mp ?_
  show x.toInt = (nI x.toInt.toNat).toInt
  rw [nI_toInt (by omega)]
  omega
