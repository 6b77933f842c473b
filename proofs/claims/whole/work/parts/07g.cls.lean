-- X11_about_0 X11_giveBeads_0 X11_payOut_0 X2_put_48 X2_takeTop_48
def ww_X11_about_0 : List Cond := .code yX11_about cX11_about 2 (some .int) :: (WdX ++ WsX)
theorem q_X11_about_0 : yX11_about.cls = RX11 ∧ yX11_about.cls ≠ "java/lang/invoke/MethodHandle" ∧ yX11_about.cls ≠ "java/lang/invoke/VarHandle" ∧ (parseMethodDescriptor yX11_about.desc).map (fun d => d.parameters.length) = some 1 := by decide +kernel
def VC_X11_about_0 (Post : Int32 → XS → Prop) (a0 : Int32) (S : XS) : Prop := ((a0 = 0 → Post (S.1 64) S) ∧ (a0 = 1 → Post (S.1 224) S) ∧ (a0 = 2 → Post (S.1 353) S) ∧ (a0 = 3 → Post (S.1 352) S) ∧ (a0 = 4 → Post (S.1 38) S) ∧ (a0 = 5 → Post (S.1 39) S) ∧ (a0 = 6 → Post (S.1 481) S) ∧ (a0 = 7 → Post (S.1 544) S) ∧ (a0 = 8 → Post (S.1 546) S) ∧ (a0 = 9 → Post (S.1 1313) S) ∧ (¬ a0 = 0 → ¬ a0 = 1 → ¬ a0 = 2 → ¬ a0 = 3 → ¬ a0 = 4 → ¬ a0 = 5 → ¬ a0 = 6 → ¬ a0 = 7 → ¬ a0 = 8 → ¬ a0 = 9 → VC_X11_aboutKind_0 (fun r2 S1 => Post r2 S1) a0 S))
set_option maxHeartbeats 4000000 in
set_option maxRecDepth 100000 in
theorem m_X11_about_0 {l : Launch} {dC : Nat → ClassId} {dI : Nat → Nat → Nat} {q : Nat → Nat} {cI cT : ClassId} {en : Nat → Nat} {sz : Nat} {Post : Int32 → XS → Prop} (a0 : Int32) (S : XS) (h : VC_X11_about_0 Post a0 S) : Met l yX11_about ww_X11_about_0 ({ frames := 2, cells := 0, slots := 0, locals := 43 } : Room) (va_Pc [.ref (q 0), .int a0] (preX dC dI q cI cT en S sz)) (va_Qi Post (atX dC dI q cI cT (va_A (wX q cI cT S) sz)) (va_A (wX q cI cT S) sz)) 0 0 (va_A (wX q cI cT S) sz) := by
  refine oX (cc := cX11_about) (maxL := 2) (ret := (some .int)) (Qc := fun A => va_Qi Post (atX dC dI q cI cT A) A) (own := RX11) (by decide) rfl (fun w h => List.mem_cons_of_mem _ (List.mem_append_right _ h)) rfl (Nat.le_of_ble_eq_true rfl) (fun p e s m below meth c A ls X hr hlocks hP hD hS hl => ?_)
  have hx := X.1
  have hb := X.2.1
  have hl : lv_has ls 2 [(0, .ref (q 0)), (1, .int a0)] := hl
  have lk12 := X.2.2.2.2.1 (.fieldLink RX11 12 "BreathOnLoan" "now" "LBreathOnLoan$State;") (inX 568 rfl)
  have lk57 := X.2.2.2.2.1 (.fieldLink RX11 57 "BreathOnLoan$State" "crew" "LBreathOnLoan$Crew;") (inX 592 rfl)
  have lk256 := X.2.2.2.2.1 (.fieldLink RX11 256 "BreathOnLoan$Crew" "count" "I") (inX 672 rfl)
  have lk75 := X.2.2.2.2.1 (.fieldLink RX11 75 "BreathOnLoan$State" "wares" "LBreathOnLoan$Wares;") (inX 603 rfl)
  have lk229 := X.2.2.2.2.1 (.fieldLink RX11 229 "BreathOnLoan$Wares" "count" "I") (inX 722 rfl)
  have lk141 := X.2.2.2.2.1 (.fieldLink RX11 141 "BreathOnLoan$State" "bench" "LBreathOnLoan$Bench;") (inX 632 rfl)
  have lk210 := X.2.2.2.2.1 (.fieldLink RX11 210 "BreathOnLoan$Bench" "pieces" "I") (inX 633 rfl)
  have lk191 := X.2.2.2.2.1 (.fieldLink RX11 191 "BreathOnLoan$Bench" "hour" "I") (inX 650 rfl)
  have lk92 := X.2.2.2.2.1 (.fieldLink RX11 92 "BreathOnLoan$State" "textCount" "I") (inX 613 rfl)
  have lk117 := X.2.2.2.2.1 (.fieldLink RX11 117 "BreathOnLoan$State" "ruling" "I") (inX 626 rfl)
  have lk167 := X.2.2.2.2.1 (.fieldLink RX11 167 "BreathOnLoan$State" "steps" "LBreathOnLoan$Steps;") (inX 636 rfl)
  have lk179 := X.2.2.2.2.1 (.fieldLink RX11 179 "BreathOnLoan$Steps" "count" "I") (inX 699 rfl)
  have lk247 := X.2.2.2.2.1 (.fieldLink RX11 247 "BreathOnLoan$State" "talk" "LBreathOnLoan$Talk;") (inX 736 rfl)
  have lk277 := X.2.2.2.2.1 (.fieldLink RX11 277 "BreathOnLoan$Talk" "seenCount" "I") (inX 740 rfl)
  have lk264 := X.2.2.2.2.1 (.fieldLink RX11 264 "BreathOnLoan$Talk" "toldCount" "I") (inX 754 rfl)
  have lk22 := X.2.2.2.2.1 (.fieldLink RX11 22 "BreathOnLoan" "tape" "LBreathOnLoan$Tape;") (inX 573 rfl)
  have lk84 := X.2.2.2.2.1 (.fieldLink RX11 84 "BreathOnLoan$Tape" "length" "I") (inX 608 rfl)
  dsimp only [VC_X11_about_0] at h
  refine lv_iload_n hx hb (dk DX11_about 0 rfl) rfl (lv_at hl 1 rfl) ?_
  by_cases hc0 : a0 = 0
  · have h := h.1 hc0
    refine lv_tableIn (off := 55) (tgt := 56) hx hb (dk DX11_about 1 rfl) (by rw [hc0]; decide) (by rw [hc0]; decide) (by rw [hc0]; decide) (by decide) ?_
    refine lv_aload_n hx hb (dk DX11_about 2 rfl) rfl (lv_at hl 0 rfl) ?_
    refine gX_0 X hP 0 (by decide) rfl lk12 (dk DX11_about 3 rfl) ?_
    refine gX_1 X hP 0 (by decide) rfl lk57 (dk DX11_about 4 rfl) ?_
    refine gX_2 X hP 0 (by decide) rfl lk256 (dk DX11_about 5 rfl) ?_
    exact W.iret (v := (S.1 64)) hx hb hr (fun t ht hW => ⟨⟨_, _, rfl, h, by rw [ht]; exact hP, va_K.moved hW.alike X.2.2.2.2.2.2.1, hD⟩, hS.F ht⟩) hS.2.2 (dk DX11_about 6 rfl)
  have h := h.2
  by_cases hc1 : a0 = 1
  · have h := h.1 hc1
    refine lv_tableIn (off := 66) (tgt := 67) hx hb (dk DX11_about 1 rfl) (by rw [hc1]; decide) (by rw [hc1]; decide) (by rw [hc1]; decide) (by decide) ?_
    refine lv_aload_n hx hb (dk DX11_about 7 rfl) rfl (lv_at hl 0 rfl) ?_
    refine gX_0 X hP 0 (by decide) rfl lk12 (dk DX11_about 8 rfl) ?_
    refine gX_1 X hP 1 (by decide) rfl lk75 (dk DX11_about 9 rfl) ?_
    refine gX_7 X hP 0 (by decide) rfl lk229 (dk DX11_about 10 rfl) ?_
    exact W.iret (v := (S.1 224)) hx hb hr (fun t ht hW => ⟨⟨_, _, rfl, h, by rw [ht]; exact hP, va_K.moved hW.alike X.2.2.2.2.2.2.1, hD⟩, hS.F ht⟩) hS.2.2 (dk DX11_about 11 rfl)
  have h := h.2
  by_cases hc2 : a0 = 2
  · have h := h.1 hc2
    refine lv_tableIn (off := 77) (tgt := 78) hx hb (dk DX11_about 1 rfl) (by rw [hc2]; decide) (by rw [hc2]; decide) (by rw [hc2]; decide) (by decide) ?_
    refine lv_aload_n hx hb (dk DX11_about 12 rfl) rfl (lv_at hl 0 rfl) ?_
    refine gX_0 X hP 0 (by decide) rfl lk12 (dk DX11_about 13 rfl) ?_
    refine gX_1 X hP 2 (by decide) rfl lk141 (dk DX11_about 14 rfl) ?_
    refine gX_11 X hP 1 (by decide) rfl lk210 (dk DX11_about 15 rfl) ?_
    exact W.iret (v := (S.1 353)) hx hb hr (fun t ht hW => ⟨⟨_, _, rfl, h, by rw [ht]; exact hP, va_K.moved hW.alike X.2.2.2.2.2.2.1, hD⟩, hS.F ht⟩) hS.2.2 (dk DX11_about 16 rfl)
  have h := h.2
  by_cases hc3 : a0 = 3
  · have h := h.1 hc3
    refine lv_tableIn (off := 88) (tgt := 89) hx hb (dk DX11_about 1 rfl) (by rw [hc3]; decide) (by rw [hc3]; decide) (by rw [hc3]; decide) (by decide) ?_
    refine lv_aload_n hx hb (dk DX11_about 17 rfl) rfl (lv_at hl 0 rfl) ?_
    refine gX_0 X hP 0 (by decide) rfl lk12 (dk DX11_about 18 rfl) ?_
    refine gX_1 X hP 2 (by decide) rfl lk141 (dk DX11_about 19 rfl) ?_
    refine gX_11 X hP 0 (by decide) rfl lk191 (dk DX11_about 20 rfl) ?_
    exact W.iret (v := (S.1 352)) hx hb hr (fun t ht hW => ⟨⟨_, _, rfl, h, by rw [ht]; exact hP, va_K.moved hW.alike X.2.2.2.2.2.2.1, hD⟩, hS.F ht⟩) hS.2.2 (dk DX11_about 21 rfl)
  have h := h.2
  by_cases hc4 : a0 = 4
  · have h := h.1 hc4
    refine lv_tableIn (off := 99) (tgt := 100) hx hb (dk DX11_about 1 rfl) (by rw [hc4]; decide) (by rw [hc4]; decide) (by rw [hc4]; decide) (by decide) ?_
    refine lv_aload_n hx hb (dk DX11_about 22 rfl) rfl (lv_at hl 0 rfl) ?_
    refine gX_0 X hP 0 (by decide) rfl lk12 (dk DX11_about 23 rfl) ?_
    refine gX_1 X hP 6 (by decide) rfl lk92 (dk DX11_about 24 rfl) ?_
    exact W.iret (v := (S.1 38)) hx hb hr (fun t ht hW => ⟨⟨_, _, rfl, h, by rw [ht]; exact hP, va_K.moved hW.alike X.2.2.2.2.2.2.1, hD⟩, hS.F ht⟩) hS.2.2 (dk DX11_about 25 rfl)
  have h := h.2
  by_cases hc5 : a0 = 5
  · have h := h.1 hc5
    refine lv_tableIn (off := 107) (tgt := 108) hx hb (dk DX11_about 1 rfl) (by rw [hc5]; decide) (by rw [hc5]; decide) (by rw [hc5]; decide) (by decide) ?_
    refine lv_aload_n hx hb (dk DX11_about 26 rfl) rfl (lv_at hl 0 rfl) ?_
    refine gX_0 X hP 0 (by decide) rfl lk12 (dk DX11_about 27 rfl) ?_
    refine gX_1 X hP 7 (by decide) rfl lk117 (dk DX11_about 28 rfl) ?_
    exact W.iret (v := (S.1 39)) hx hb hr (fun t ht hW => ⟨⟨_, _, rfl, h, by rw [ht]; exact hP, va_K.moved hW.alike X.2.2.2.2.2.2.1, hD⟩, hS.F ht⟩) hS.2.2 (dk DX11_about 29 rfl)
  have h := h.2
  by_cases hc6 : a0 = 6
  · have h := h.1 hc6
    refine lv_tableIn (off := 115) (tgt := 116) hx hb (dk DX11_about 1 rfl) (by rw [hc6]; decide) (by rw [hc6]; decide) (by rw [hc6]; decide) (by decide) ?_
    refine lv_aload_n hx hb (dk DX11_about 30 rfl) rfl (lv_at hl 0 rfl) ?_
    refine gX_0 X hP 0 (by decide) rfl lk12 (dk DX11_about 31 rfl) ?_
    refine gX_1 X hP 3 (by decide) rfl lk167 (dk DX11_about 32 rfl) ?_
    refine gX_15 X hP 1 (by decide) rfl lk179 (dk DX11_about 33 rfl) ?_
    exact W.iret (v := (S.1 481)) hx hb hr (fun t ht hW => ⟨⟨_, _, rfl, h, by rw [ht]; exact hP, va_K.moved hW.alike X.2.2.2.2.2.2.1, hD⟩, hS.F ht⟩) hS.2.2 (dk DX11_about 34 rfl)
  have h := h.2
  by_cases hc7 : a0 = 7
  · have h := h.1 hc7
    refine lv_tableIn (off := 126) (tgt := 127) hx hb (dk DX11_about 1 rfl) (by rw [hc7]; decide) (by rw [hc7]; decide) (by rw [hc7]; decide) (by decide) ?_
    refine lv_aload_n hx hb (dk DX11_about 35 rfl) rfl (lv_at hl 0 rfl) ?_
    refine gX_0 X hP 0 (by decide) rfl lk12 (dk DX11_about 36 rfl) ?_
    refine gX_1 X hP 4 (by decide) rfl lk247 (dk DX11_about 37 rfl) ?_
    refine gX_17 X hP 0 (by decide) rfl lk277 (dk DX11_about 38 rfl) ?_
    exact W.iret (v := (S.1 544)) hx hb hr (fun t ht hW => ⟨⟨_, _, rfl, h, by rw [ht]; exact hP, va_K.moved hW.alike X.2.2.2.2.2.2.1, hD⟩, hS.F ht⟩) hS.2.2 (dk DX11_about 39 rfl)
  have h := h.2
  by_cases hc8 : a0 = 8
  · have h := h.1 hc8
    refine lv_tableIn (off := 137) (tgt := 138) hx hb (dk DX11_about 1 rfl) (by rw [hc8]; decide) (by rw [hc8]; decide) (by rw [hc8]; decide) (by decide) ?_
    refine lv_aload_n hx hb (dk DX11_about 40 rfl) rfl (lv_at hl 0 rfl) ?_
    refine gX_0 X hP 0 (by decide) rfl lk12 (dk DX11_about 41 rfl) ?_
    refine gX_1 X hP 4 (by decide) rfl lk247 (dk DX11_about 42 rfl) ?_
    refine gX_17 X hP 2 (by decide) rfl lk264 (dk DX11_about 43 rfl) ?_
    exact W.iret (v := (S.1 546)) hx hb hr (fun t ht hW => ⟨⟨_, _, rfl, h, by rw [ht]; exact hP, va_K.moved hW.alike X.2.2.2.2.2.2.1, hD⟩, hS.F ht⟩) hS.2.2 (dk DX11_about 44 rfl)
  have h := h.2
  by_cases hc9 : a0 = 9
  · have h := h.1 hc9
    refine lv_tableIn (off := 148) (tgt := 149) hx hb (dk DX11_about 1 rfl) (by rw [hc9]; decide) (by rw [hc9]; decide) (by rw [hc9]; decide) (by decide) ?_
    refine lv_aload_n hx hb (dk DX11_about 45 rfl) rfl (lv_at hl 0 rfl) ?_
    refine gX_0 X hP 2 (by decide) rfl lk22 (dk DX11_about 46 rfl) ?_
    refine gX_41 X hP 1 (by decide) rfl lk84 (dk DX11_about 47 rfl) ?_
    exact W.iret (v := (S.1 1313)) hx hb hr (fun t ht hW => ⟨⟨_, _, rfl, h, by rw [ht]; exact hP, va_K.moved hW.alike X.2.2.2.2.2.2.1, hD⟩, hS.F ht⟩) hS.2.2 (dk DX11_about 48 rfl)
  have h := h.2
  have h := h hc0 hc1 hc2 hc3 hc4 hc5 hc6 hc7 hc8 hc9
  refine lv_tableOut (tgt := 157) hx hb (dk DX11_about 1 rfl) (by have n0 := lv_neT hc0 (a := 0) (by decide); have n1 := lv_neT hc1 (a := 1) (by decide); have n2 := lv_neT hc2 (a := 2) (by decide); have n3 := lv_neT hc3 (a := 3) (by decide); have n4 := lv_neT hc4 (a := 4) (by decide); have n5 := lv_neT hc5 (a := 5) (by decide); have n6 := lv_neT hc6 (a := 6) (by decide); have n7 := lv_neT hc7 (a := 7) (by decide); have n8 := lv_neT hc8 (a := 8) (by decide); have n9 := lv_neT hc9 (a := 9) (by decide); omega) (by decide) ?_
  refine lv_aload_n hx hb (dk DX11_about 49 rfl) rfl (lv_at hl 0 rfl) ?_
  refine lv_iload_n hx hb (dk DX11_about 50 rfl) rfl (lv_at hl 1 rfl) ?_
  refine cXi (As := [.int a0]) (rest := []) X (m_X11_aboutKind_0 (l := l) (dC := dC) (dI := dI) (q := q) (cI := cI) (cT := cT) (en := en) (sz := _) a0 S h) (cwV 1 X.2.2.2.2.1 (gxV 768 769 770 16 765 rfl rfl rfl rfl rfl) rfl rfl rfl q_X11_aboutKind_0 ⟨Nat.le_of_ble_eq_true rfl, Nat.le_of_ble_eq_true rfl⟩) (rX_0 X hP) hP hD hS rfl hl.1 rfl (Nat.le_of_ble_eq_true rfl) (dk DX11_about 51 rfl) (fun r2 S1 H locs h hP hD hS => ?_)
  exact W.iret (v := r2) hx hb hr (fun t ht hW => ⟨⟨_, _, rfl, h, by rw [ht]; exact hP, va_K.moved hW.alike X.2.2.2.2.2.2.1, hD⟩, hS.F ht⟩) hS.2.2 (dk DX11_about 52 rfl)

def ww_X11_giveBeads_0 : List Cond := .code yX11_giveBeads cX11_giveBeads 4 none :: (WdX ++ WsX)
theorem q_X11_giveBeads_0 : yX11_giveBeads.cls = RX11 ∧ yX11_giveBeads.cls ≠ "java/lang/invoke/MethodHandle" ∧ yX11_giveBeads.cls ≠ "java/lang/invoke/VarHandle" ∧ (parseMethodDescriptor yX11_giveBeads.desc).map (fun d => d.parameters.length) = some 3 := by decide +kernel
def VC_X11_giveBeads_0 (Post : XS → Prop) (a0 : Int32) (a1 : Int32) (a2 : Int32) (S : XS) : Prop := vp_in a1 6 ∧ ∀ v1 : Int32, v1 = ((S.2.1 5) a1.toNatClampNeg) + a2 → vp_in a1 6 ∧ ∀ S2 : XS, S2 = xF S 5 (upd (S.2.1 5) a1.toNatClampNeg v1) → vp_in ((a0 + 2) + a1) 240 ∧ ∀ S3 : XS, S3 = xF S2 16 (upd (S2.2.1 16) ((a0 + 2) + a1).toNatClampNeg a2) → Post S3
set_option maxHeartbeats 4000000 in
set_option maxRecDepth 100000 in
theorem m_X11_giveBeads_0 {l : Launch} {dC : Nat → ClassId} {dI : Nat → Nat → Nat} {q : Nat → Nat} {cI cT : ClassId} {en : Nat → Nat} {sz : Nat} {Post : XS → Prop} (a0 : Int32) (a1 : Int32) (a2 : Int32) (S : XS) (h : VC_X11_giveBeads_0 Post a0 a1 a2 S) : Met l yX11_giveBeads ww_X11_giveBeads_0 ({ frames := 0, cells := 0, slots := 0, locals := 0 } : Room) (va_Pc [.ref (q 0), .int a0, .int a1, .int a2] (preX dC dI q cI cT en S sz)) (va_Qv Post (atX dC dI q cI cT (va_A (wX q cI cT S) sz)) (va_A (wX q cI cT S) sz)) 0 0 (va_A (wX q cI cT S) sz) := by
  refine oX (cc := cX11_giveBeads) (maxL := 4) (ret := none) (Qc := fun A => va_Qv Post (atX dC dI q cI cT A) A) (own := RX11) (by decide) rfl (fun w h => List.mem_cons_of_mem _ (List.mem_append_right _ h)) rfl (Nat.le_of_ble_eq_true rfl) (fun p e s m below meth c A ls X hr hlocks hP hD hS hl => ?_)
  have hx := X.1
  have hb := X.2.1
  have hl : lv_has ls 4 [(0, .ref (q 0)), (1, .int a0), (2, .int a1), (3, .int a2)] := hl
  have lk12 := X.2.2.2.2.1 (.fieldLink RX11 12 "BreathOnLoan" "now" "LBreathOnLoan$State;") (inX 568 rfl)
  have lk57 := X.2.2.2.2.1 (.fieldLink RX11 57 "BreathOnLoan$State" "crew" "LBreathOnLoan$Crew;") (inX 592 rfl)
  have lk188 := X.2.2.2.2.1 (.fieldLink RX11 188 "BreathOnLoan$Crew" "beads" "[I") (inX 647 rfl)
  have lk167 := X.2.2.2.2.1 (.fieldLink RX11 167 "BreathOnLoan$State" "steps" "LBreathOnLoan$Steps;") (inX 636 rfl)
  have lk303 := X.2.2.2.2.1 (.fieldLink RX11 303 "BreathOnLoan$Steps" "rows" "[I") (inX 648 rfl)
  dsimp only [VC_X11_giveBeads_0] at h
  refine lv_aload_n hx hb (dk DX11_giveBeads 0 rfl) rfl (lv_at hl 0 rfl) ?_
  refine gX_0 X hP 0 (by decide) rfl lk12 (dk DX11_giveBeads 1 rfl) ?_
  refine gX_1 X hP 0 (by decide) rfl lk57 (dk DX11_giveBeads 2 rfl) ?_
  refine gX_2 X hP 3 (by decide) rfl lk188 (dk DX11_giveBeads 3 rfl) ?_
  refine lv_iload_n hx hb (dk DX11_giveBeads 4 rfl) rfl (lv_at hl 2 rfl) ?_
  refine lv_dup2_11 hx hb (dk DX11_giveBeads 5 rfl) rfl rfl ?_
  obtain ⟨hin, h⟩ := h
  refine ldX_5 X hP hin (dk DX11_giveBeads 6 rfl) ?_
  refine lv_iload_n hx hb (dk DX11_giveBeads 7 rfl) rfl (lv_at hl 3 rfl) ?_
  refine lv_iadd hx hb (dk DX11_giveBeads 8 rfl) ?_
  refine lv_topi (fun v1 ev1 => ?_)
  have h := h v1 ev1
  obtain ⟨hin, h⟩ := h
  refine stX_5 X hP hD hS hin (dk DX11_giveBeads 9 rfl) (fun S2 eS2 H locs hP hD hS => ?_)
  have h := h S2 eS2
  refine lv_aload_n hx hb (dk DX11_giveBeads 10 rfl) rfl (lv_at hl 0 rfl) ?_
  refine gX_0 X hP 0 (by decide) rfl lk12 (dk DX11_giveBeads 11 rfl) ?_
  refine gX_1 X hP 3 (by decide) rfl lk167 (dk DX11_giveBeads 12 rfl) ?_
  refine gX_15 X hP 2 (by decide) rfl lk303 (dk DX11_giveBeads 13 rfl) ?_
  refine lv_iload_n hx hb (dk DX11_giveBeads 14 rfl) rfl (lv_at hl 1 rfl) ?_
  refine lv_iconst (v := 2) hx hb (dk DX11_giveBeads 15 rfl) (by decide) ?_
  refine lv_iadd hx hb (dk DX11_giveBeads 16 rfl) ?_
  refine lv_iload_n hx hb (dk DX11_giveBeads 17 rfl) rfl (lv_at hl 2 rfl) ?_
  refine lv_iadd hx hb (dk DX11_giveBeads 18 rfl) ?_
  refine lv_iload_n hx hb (dk DX11_giveBeads 19 rfl) rfl (lv_at hl 3 rfl) ?_
  obtain ⟨hin, h⟩ := h
  refine stX_16 X hP hD hS hin (dk DX11_giveBeads 20 rfl) (fun S3 eS3 H locs hP hD hS => ?_)
  have h := h S3 eS3
  exact W.vret hx hb hr (fun t ht hW => ⟨⟨_, rfl, h, by rw [ht]; exact hP, va_K.moved hW.alike X.2.2.2.2.2.2.1, hD⟩, hS.F ht⟩) hS.2.2 (dk DX11_giveBeads 21 rfl)

def ww_X11_payOut_0 : List Cond := .code yX11_payOut cX11_payOut 8 (some .int) :: (WdX ++ WsX)
theorem q_X11_payOut_0 : yX11_payOut.cls = RX11 ∧ yX11_payOut.cls ≠ "java/lang/invoke/MethodHandle" ∧ yX11_payOut.cls ≠ "java/lang/invoke/VarHandle" ∧ (parseMethodDescriptor yX11_payOut.desc).map (fun d => d.parameters.length) = some 2 := by decide +kernel
abbrev Hd_X11_payOut_0 : Type := (Int32 × Int32 × Int32 × Int32 × Int32 × Int32) ⊕ (Int32 × Int32 × Int32 × Int32 × Int32 × Int32)
def B_X11_payOut_0 (Post : Int32 → XS → Prop) (K : Hd_X11_payOut_0 → XS → Prop) : Hd_X11_payOut_0 → XS → Prop
  | (.inl (x1, x2, x3, x4, x5, x6)), S => (((S.1 64) ≤ x6 → K (.inr (x1, x2, x3, x4, x5, x6)) S) ∧ (¬ (S.1 64) ≤ x6 → ((x2 ≤ 0 → K (.inr (x1, x2, x3, x4, x5, x6)) S) ∧ (¬ x2 ≤ 0 → vp_in x6 6 ∧ ¬ x2 = 0 ∧ vp_in x6 6 ∧ ∀ v4 : Int32, v4 = (if (999 - ((S.2.1 5) x6.toNatClampNeg)) < ((x4 * ((S.2.1 59) x6.toNatClampNeg)) / x2) then (999 - ((S.2.1 5) x6.toNatClampNeg)) else ((x4 * ((S.2.1 59) x6.toNatClampNeg)) / x2)) → VC_X11_giveBeads_0 (fun S5 => ∀ v6 : Int32, v6 = x5 + v4 → ∀ v7 : Int32, v7 = x6 + 1 → K (.inl (x1, x2, x3, x4, v6, v7)) S5) x3 x6 v4 S))))
  | (.inr (x1, x2, x3, x4, x5, x6)), S => vp_in x1 10 ∧ ∀ S8 : XS, S8 = xF S 13 (upd (S.2.1 13) x1.toNatClampNeg 1) → Post x5 S8
def VC_X11_payOut_0 (Post : Int32 → XS → Prop) (a0 : Int32) (a1 : Int32) (S : XS) : Prop := ∀ K : Hd_X11_payOut_0 → XS → Prop, (∀ h S, B_X11_payOut_0 Post K h S → K h S) → VC_X6_push_15 (fun r2 S1 => vp_in a0 10 ∧ vp_in ((S1.2.1 12) a0.toNatClampNeg) 6 ∧ ∀ v3 : Int32, v3 = (S1.2.1 10) ((S1.2.1 12) a0.toNatClampNeg).toNatClampNeg → K (.inl (a0, a1, r2, v3, 0, 0)) S1) 3 a0 S
set_option maxHeartbeats 4000000 in
set_option maxRecDepth 100000 in
theorem h_X11_payOut_0_0 {p : Program} {l : Launch} {e : Env} {s : State} {m : MethodId} {below : List Frame} {meth : Method} {c : Code} {dC : Nat → ClassId} {dI : Nat → Nat → Nat} {q : Nat → Nat} {cI cT : ClassId} {en : Nat → Nat} {A : Nat → Prop} {args : Array Value} {Post : Int32 → XS → Prop} {K : Hd_X11_payOut_0 → XS → Prop} (X : XX p s m args c cX11_payOut 8 ww_X11_payOut_0 RX11 dC dI cI cT en A) (hr : meth.sig.returnType = (some .int)) (hlocks : meth.locks = false) (hK0 : ∀ (x1 : Int32) (x2 : Int32) (x3 : Int32) (x4 : Int32) (x5 : Int32) (x6 : Int32) (S : XS), K (.inl (x1, x2, x3, x4, x5, x6)) S → ∀ (H : Heap) (locs : List Loc), va_P (dC, dI) vwCl (wX q cI cT S) H → va_D A (wX q cI cT S) → va_S A s.heap H locs → ∀ ls : Array Slot, lv_has ls 8 [(0, .ref (q 0)), (1, .int x1), (2, .int x2), (3, .int x3), (4, .int x4), (5, .int x5), (6, .int x6)] → W p l e (headSpec ww_X11_payOut_0 ({ frames := 3, cells := 0, slots := 0, locals := 69 } : Room)).room s m args below meth c H locs 0 0 (MQ below (va_Qi Post (atX dC dI q cI cT A) A) args s 0 0 A) (F0 m 44 ls [])) (hK1 : ∀ (x1 : Int32) (x2 : Int32) (x3 : Int32) (x4 : Int32) (x5 : Int32) (x6 : Int32) (S : XS), K (.inr (x1, x2, x3, x4, x5, x6)) S → ∀ (H : Heap) (locs : List Loc), va_P (dC, dI) vwCl (wX q cI cT S) H → va_D A (wX q cI cT S) → va_S A s.heap H locs → ∀ ls : Array Slot, lv_has ls 8 [(0, .ref (q 0)), (1, .int x1), (2, .int x2), (3, .int x3), (4, .int x4), (5, .int x5), (6, .int x6)] → W p l e (headSpec ww_X11_payOut_0 ({ frames := 3, cells := 0, slots := 0, locals := 69 } : Room)).room s m args below meth c H locs 0 0 (MQ below (va_Qi Post (atX dC dI q cI cT A) A) args s 0 0 A) (F0 m 119 ls [])) (x1 : Int32) (x2 : Int32) (x3 : Int32) (x4 : Int32) (x5 : Int32) (x6 : Int32) (S : XS) (h : B_X11_payOut_0 Post K (.inl (x1, x2, x3, x4, x5, x6)) S) : ∀ (H : Heap) (locs : List Loc), va_P (dC, dI) vwCl (wX q cI cT S) H → va_D A (wX q cI cT S) → va_S A s.heap H locs → ∀ ls : Array Slot, lv_has ls 8 [(0, .ref (q 0)), (1, .int x1), (2, .int x2), (3, .int x3), (4, .int x4), (5, .int x5), (6, .int x6)] → W p l e (headSpec ww_X11_payOut_0 ({ frames := 3, cells := 0, slots := 0, locals := 69 } : Room)).room s m args below meth c H locs 0 0 (MQ below (va_Qi Post (atX dC dI q cI cT A) A) args s 0 0 A) (F0 m 44 ls []) := by
  have hx := X.1
  have hb := X.2.1
  intro H locs hP hD hS ls hl
  have lk12 := X.2.2.2.2.1 (.fieldLink RX11 12 "BreathOnLoan" "now" "LBreathOnLoan$State;") (inX 568 rfl)
  have lk167 := X.2.2.2.2.1 (.fieldLink RX11 167 "BreathOnLoan$State" "steps" "LBreathOnLoan$Steps;") (inX 636 rfl)
  have lk75 := X.2.2.2.2.1 (.fieldLink RX11 75 "BreathOnLoan$State" "wares" "LBreathOnLoan$Wares;") (inX 603 rfl)
  have lk284 := X.2.2.2.2.1 (.fieldLink RX11 284 "BreathOnLoan$Wares" "worth" "[I") (inX 677 rfl)
  have lk141 := X.2.2.2.2.1 (.fieldLink RX11 141 "BreathOnLoan$State" "bench" "LBreathOnLoan$Bench;") (inX 632 rfl)
  have lk201 := X.2.2.2.2.1 (.fieldLink RX11 201 "BreathOnLoan$Bench" "kindOf" "[I") (inX 634 rfl)
  have lk57 := X.2.2.2.2.1 (.fieldLink RX11 57 "BreathOnLoan$State" "crew" "LBreathOnLoan$Crew;") (inX 592 rfl)
  have lk256 := X.2.2.2.2.1 (.fieldLink RX11 256 "BreathOnLoan$Crew" "count" "I") (inX 672 rfl)
  have lk49 := X.2.2.2.2.1 (.fieldLink RX11 49 "BreathOnLoan" "shares" "[I") (inX 583 rfl)
  have lk188 := X.2.2.2.2.1 (.fieldLink RX11 188 "BreathOnLoan$Crew" "beads" "[I") (inX 647 rfl)
  have lk145 := X.2.2.2.2.1 (.fieldLink RX11 145 "BreathOnLoan$Bench" "sold" "[I") (inX 635 rfl)
  dsimp only [B_X11_payOut_0] at h
  refine lv_iload hx hb (dk DX11_payOut 23 rfl) (lv_at hl 6 rfl) ?_
  refine lv_aload_n hx hb (dk DX11_payOut 24 rfl) rfl (lv_at hl 0 rfl) ?_
  refine gX_0 X hP 0 (by decide) rfl lk12 (dk DX11_payOut 25 rfl) ?_
  refine gX_1 X hP 0 (by decide) rfl lk57 (dk DX11_payOut 26 rfl) ?_
  refine gX_2 X hP 0 (by decide) rfl lk256 (dk DX11_payOut 27 rfl) ?_
  refine lv_icmp_ge (tgt := 119) hx hb (dk DX11_payOut 28 rfl) (by decide) (fun hc => ?_) (fun hc => ?_)
  · have h := h.1 hc
    exact hK1 x1 x2 x3 x4 x5 x6 S h _ _ hP hD hS ls (lv_sub hl [0, 1, 2, 3, 4, 5, 6] rfl)
  · have h := h.2 hc
    refine lv_iload_n hx hb (dk DX11_payOut 29 rfl) rfl (lv_at hl 2 rfl) ?_
    refine lv_if_le (tgt := 119) hx hb (dk DX11_payOut 30 rfl) (by decide) (fun hc => ?_) (fun hc => ?_)
    · have h := h.1 hc
      exact hK1 x1 x2 x3 x4 x5 x6 S h _ _ hP hD hS ls (lv_sub hl [0, 1, 2, 3, 4, 5, 6] rfl)
    · have h := h.2 hc
      refine lv_iload hx hb (dk DX11_payOut 31 rfl) (lv_at hl 4 rfl) ?_
      refine lv_aload_n hx hb (dk DX11_payOut 32 rfl) rfl (lv_at hl 0 rfl) ?_
      refine gX_0 X hP 6 (by decide) rfl lk49 (dk DX11_payOut 33 rfl) ?_
      refine lv_iload hx hb (dk DX11_payOut 34 rfl) (lv_at hl 6 rfl) ?_
      obtain ⟨hin, h⟩ := h
      refine ldX_59 X hP hin (dk DX11_payOut 35 rfl) ?_
      refine lv_imul hx hb (dk DX11_payOut 36 rfl) ?_
      refine lv_iload_n hx hb (dk DX11_payOut 37 rfl) rfl (lv_at hl 2 rfl) ?_
      obtain ⟨hz, h⟩ := h
      refine lv_idiv hx hb (dk DX11_payOut 38 rfl) hz ?_
      refine lv_sipush (v := 999) hx hb (dk DX11_payOut 39 rfl) (by decide) ?_
      refine lv_aload_n hx hb (dk DX11_payOut 40 rfl) rfl (lv_at hl 0 rfl) ?_
      refine gX_0 X hP 0 (by decide) rfl lk12 (dk DX11_payOut 41 rfl) ?_
      refine gX_1 X hP 0 (by decide) rfl lk57 (dk DX11_payOut 42 rfl) ?_
      refine gX_2 X hP 3 (by decide) rfl lk188 (dk DX11_payOut 43 rfl) ?_
      refine lv_iload hx hb (dk DX11_payOut 44 rfl) (lv_at hl 6 rfl) ?_
      obtain ⟨hin, h⟩ := h
      refine ldX_5 X hP hin (dk DX11_payOut 45 rfl) ?_
      refine lv_isub hx hb (dk DX11_payOut 46 rfl) ?_
      refine va_mmin hx hb (X.2.2.1.trans hl.1.symm) X.2.2.2.1 (X.2.2.2.2.1 (.methodLink RX11 309 Lib.Math.min.name) (inX 19 rfl)) (X.2.2.2.2.1 (.static Lib.Math.min.name) (inX 20 rfl)) (X.2.2.2.2.1 (.initialized "java/lang/Math") (inX 21 rfl)) (X.2.2.2.2.1 (.code Lib.Math.min.name Lib.Math.min.code 2 (some .int)) (inX 22 rfl)) (Nat.le_of_ble_eq_true rfl) (Nat.le_of_ble_eq_true rfl) (Nat.zero_le _) (Nat.zero_le _) (dk DX11_payOut 47 rfl) ?_
      refine lv_topi (fun v4 ev4 => ?_)
      have h := h v4 ev4
      refine lv_istore (lv' := [(7, .int v4), (0, .ref (q 0)), (1, .int x1), (2, .int x2), (3, .int x3), (4, .int x4), (5, .int x5), (6, .int x6)]) hx hb (dk DX11_payOut 48 rfl) hl (by decide) rfl (fun ls hl => ?_)
      refine lv_aload_n hx hb (dk DX11_payOut 49 rfl) rfl (lv_at hl 1 rfl) ?_
      refine lv_iload_n hx hb (dk DX11_payOut 50 rfl) rfl (lv_at hl 4 rfl) ?_
      refine lv_iload hx hb (dk DX11_payOut 51 rfl) (lv_at hl 7 rfl) ?_
      refine lv_iload hx hb (dk DX11_payOut 52 rfl) (lv_at hl 0 rfl) ?_
      refine cXv (As := [.int x3, .int x6, .int v4]) (rest := []) X (m_X11_giveBeads_0 (l := l) (dC := dC) (dI := dI) (q := q) (cI := cI) (cT := cT) (en := en) (sz := _) x3 x6 v4 S h) (cwV 3 X.2.2.2.2.1 (gxV 659 660 661 16 646 rfl rfl rfl rfl rfl) rfl rfl rfl q_X11_giveBeads_0 ⟨Nat.le_of_ble_eq_true rfl, Nat.le_of_ble_eq_true rfl⟩) (rX_0 X hP) hP hD hS rfl hl.1 rfl (Nat.le_of_ble_eq_true rfl) (dk DX11_payOut 53 rfl) (fun S5 H locs h hP hD hS => ?_)
      refine lv_iload hx hb (dk DX11_payOut 54 rfl) (lv_at hl 6 rfl) ?_
      refine lv_iload hx hb (dk DX11_payOut 55 rfl) (lv_at hl 0 rfl) ?_
      refine lv_iadd hx hb (dk DX11_payOut 56 rfl) ?_
      refine lv_topi (fun v6 ev6 => ?_)
      have h := h v6 ev6
      refine lv_istore (lv' := [(5, .int v6), (7, .int v4), (0, .ref (q 0)), (1, .int x1), (2, .int x2), (3, .int x3), (4, .int x4), (6, .int x6)]) hx hb (dk DX11_payOut 57 rfl) hl (by decide) rfl (fun ls hl => ?_)
      obtain ⟨v7, ev7⟩ : ∃ y : Int32, y = x6 + 1 := ⟨_, rfl⟩
      have h := h v7 ev7
      refine lv_iinc (v := v7) (lv' := [(6, .int v7), (5, .int v6), (7, .int v4), (0, .ref (q 0)), (1, .int x1), (2, .int x2), (3, .int x3), (4, .int x4)]) hx hb (dk DX11_payOut 58 rfl) hl (k := 7) rfl (by rw [ev7]; rfl) (by decide) rfl (fun ls hl => ?_)
      refine lv_goto (tgt := 44) hx hb (dk DX11_payOut 59 rfl) (by decide) ?_
      exact hK0 x1 x2 x3 x4 v6 v7 S5 h _ _ hP hD hS ls (lv_sub hl [3, 4, 5, 6, 7, 1, 0] rfl)
set_option maxHeartbeats 4000000 in
set_option maxRecDepth 100000 in
theorem h_X11_payOut_0_1 {p : Program} {l : Launch} {e : Env} {s : State} {m : MethodId} {below : List Frame} {meth : Method} {c : Code} {dC : Nat → ClassId} {dI : Nat → Nat → Nat} {q : Nat → Nat} {cI cT : ClassId} {en : Nat → Nat} {A : Nat → Prop} {args : Array Value} {Post : Int32 → XS → Prop} {K : Hd_X11_payOut_0 → XS → Prop} (X : XX p s m args c cX11_payOut 8 ww_X11_payOut_0 RX11 dC dI cI cT en A) (hr : meth.sig.returnType = (some .int)) (hlocks : meth.locks = false) (hK0 : ∀ (x1 : Int32) (x2 : Int32) (x3 : Int32) (x4 : Int32) (x5 : Int32) (x6 : Int32) (S : XS), K (.inl (x1, x2, x3, x4, x5, x6)) S → ∀ (H : Heap) (locs : List Loc), va_P (dC, dI) vwCl (wX q cI cT S) H → va_D A (wX q cI cT S) → va_S A s.heap H locs → ∀ ls : Array Slot, lv_has ls 8 [(0, .ref (q 0)), (1, .int x1), (2, .int x2), (3, .int x3), (4, .int x4), (5, .int x5), (6, .int x6)] → W p l e (headSpec ww_X11_payOut_0 ({ frames := 3, cells := 0, slots := 0, locals := 69 } : Room)).room s m args below meth c H locs 0 0 (MQ below (va_Qi Post (atX dC dI q cI cT A) A) args s 0 0 A) (F0 m 44 ls [])) (hK1 : ∀ (x1 : Int32) (x2 : Int32) (x3 : Int32) (x4 : Int32) (x5 : Int32) (x6 : Int32) (S : XS), K (.inr (x1, x2, x3, x4, x5, x6)) S → ∀ (H : Heap) (locs : List Loc), va_P (dC, dI) vwCl (wX q cI cT S) H → va_D A (wX q cI cT S) → va_S A s.heap H locs → ∀ ls : Array Slot, lv_has ls 8 [(0, .ref (q 0)), (1, .int x1), (2, .int x2), (3, .int x3), (4, .int x4), (5, .int x5), (6, .int x6)] → W p l e (headSpec ww_X11_payOut_0 ({ frames := 3, cells := 0, slots := 0, locals := 69 } : Room)).room s m args below meth c H locs 0 0 (MQ below (va_Qi Post (atX dC dI q cI cT A) A) args s 0 0 A) (F0 m 119 ls [])) (x1 : Int32) (x2 : Int32) (x3 : Int32) (x4 : Int32) (x5 : Int32) (x6 : Int32) (S : XS) (h : B_X11_payOut_0 Post K (.inr (x1, x2, x3, x4, x5, x6)) S) : ∀ (H : Heap) (locs : List Loc), va_P (dC, dI) vwCl (wX q cI cT S) H → va_D A (wX q cI cT S) → va_S A s.heap H locs → ∀ ls : Array Slot, lv_has ls 8 [(0, .ref (q 0)), (1, .int x1), (2, .int x2), (3, .int x3), (4, .int x4), (5, .int x5), (6, .int x6)] → W p l e (headSpec ww_X11_payOut_0 ({ frames := 3, cells := 0, slots := 0, locals := 69 } : Room)).room s m args below meth c H locs 0 0 (MQ below (va_Qi Post (atX dC dI q cI cT A) A) args s 0 0 A) (F0 m 119 ls []) := by
  have hx := X.1
  have hb := X.2.1
  intro H locs hP hD hS ls hl
  have lk12 := X.2.2.2.2.1 (.fieldLink RX11 12 "BreathOnLoan" "now" "LBreathOnLoan$State;") (inX 568 rfl)
  have lk167 := X.2.2.2.2.1 (.fieldLink RX11 167 "BreathOnLoan$State" "steps" "LBreathOnLoan$Steps;") (inX 636 rfl)
  have lk75 := X.2.2.2.2.1 (.fieldLink RX11 75 "BreathOnLoan$State" "wares" "LBreathOnLoan$Wares;") (inX 603 rfl)
  have lk284 := X.2.2.2.2.1 (.fieldLink RX11 284 "BreathOnLoan$Wares" "worth" "[I") (inX 677 rfl)
  have lk141 := X.2.2.2.2.1 (.fieldLink RX11 141 "BreathOnLoan$State" "bench" "LBreathOnLoan$Bench;") (inX 632 rfl)
  have lk201 := X.2.2.2.2.1 (.fieldLink RX11 201 "BreathOnLoan$Bench" "kindOf" "[I") (inX 634 rfl)
  have lk57 := X.2.2.2.2.1 (.fieldLink RX11 57 "BreathOnLoan$State" "crew" "LBreathOnLoan$Crew;") (inX 592 rfl)
  have lk256 := X.2.2.2.2.1 (.fieldLink RX11 256 "BreathOnLoan$Crew" "count" "I") (inX 672 rfl)
  have lk49 := X.2.2.2.2.1 (.fieldLink RX11 49 "BreathOnLoan" "shares" "[I") (inX 583 rfl)
  have lk188 := X.2.2.2.2.1 (.fieldLink RX11 188 "BreathOnLoan$Crew" "beads" "[I") (inX 647 rfl)
  have lk145 := X.2.2.2.2.1 (.fieldLink RX11 145 "BreathOnLoan$Bench" "sold" "[I") (inX 635 rfl)
  dsimp only [B_X11_payOut_0] at h
  refine lv_aload_n hx hb (dk DX11_payOut 60 rfl) rfl (lv_at hl 0 rfl) ?_
  refine gX_0 X hP 0 (by decide) rfl lk12 (dk DX11_payOut 61 rfl) ?_
  refine gX_1 X hP 2 (by decide) rfl lk141 (dk DX11_payOut 62 rfl) ?_
  refine gX_11 X hP 3 (by decide) rfl lk145 (dk DX11_payOut 63 rfl) ?_
  refine lv_iload_n hx hb (dk DX11_payOut 64 rfl) rfl (lv_at hl 1 rfl) ?_
  refine lv_iconst (v := 1) hx hb (dk DX11_payOut 65 rfl) (by decide) ?_
  obtain ⟨hin, h⟩ := h
  refine stX_13 X hP hD hS hin (dk DX11_payOut 66 rfl) (fun S8 eS8 H locs hP hD hS => ?_)
  have h := h S8 eS8
  refine lv_iload hx hb (dk DX11_payOut 67 rfl) (lv_at hl 5 rfl) ?_
  exact W.iret (v := x5) hx hb hr (fun t ht hW => ⟨⟨_, _, rfl, h, by rw [ht]; exact hP, va_K.moved hW.alike X.2.2.2.2.2.2.1, hD⟩, hS.F ht⟩) hS.2.2 (dk DX11_payOut 68 rfl)
set_option maxHeartbeats 4000000 in
set_option maxRecDepth 100000 in
theorem m_X11_payOut_0 {l : Launch} {dC : Nat → ClassId} {dI : Nat → Nat → Nat} {q : Nat → Nat} {cI cT : ClassId} {en : Nat → Nat} {sz : Nat} {Post : Int32 → XS → Prop} (a0 : Int32) (a1 : Int32) (S : XS) (h : VC_X11_payOut_0 Post a0 a1 S) : Met l yX11_payOut ww_X11_payOut_0 ({ frames := 3, cells := 0, slots := 0, locals := 69 } : Room) (va_Pc [.ref (q 0), .int a0, .int a1] (preX dC dI q cI cT en S sz)) (va_Qi Post (atX dC dI q cI cT (va_A (wX q cI cT S) sz)) (va_A (wX q cI cT S) sz)) 0 0 (va_A (wX q cI cT S) sz) := by
  refine oX (cc := cX11_payOut) (maxL := 8) (ret := (some .int)) (Qc := fun A => va_Qi Post (atX dC dI q cI cT A) A) (own := RX11) (by decide) rfl (fun w h => List.mem_cons_of_mem _ (List.mem_append_right _ h)) rfl (Nat.le_of_ble_eq_true rfl) (fun p e s m below meth c A ls X hr hlocks hP hD hS hl => ?_)
  have hx := X.1
  have hb := X.2.1
  have hl : lv_has ls 8 [(0, .ref (q 0)), (1, .int a0), (2, .int a1)] := hl
  have lk12 := X.2.2.2.2.1 (.fieldLink RX11 12 "BreathOnLoan" "now" "LBreathOnLoan$State;") (inX 568 rfl)
  have lk167 := X.2.2.2.2.1 (.fieldLink RX11 167 "BreathOnLoan$State" "steps" "LBreathOnLoan$Steps;") (inX 636 rfl)
  have lk75 := X.2.2.2.2.1 (.fieldLink RX11 75 "BreathOnLoan$State" "wares" "LBreathOnLoan$Wares;") (inX 603 rfl)
  have lk284 := X.2.2.2.2.1 (.fieldLink RX11 284 "BreathOnLoan$Wares" "worth" "[I") (inX 677 rfl)
  have lk141 := X.2.2.2.2.1 (.fieldLink RX11 141 "BreathOnLoan$State" "bench" "LBreathOnLoan$Bench;") (inX 632 rfl)
  have lk201 := X.2.2.2.2.1 (.fieldLink RX11 201 "BreathOnLoan$Bench" "kindOf" "[I") (inX 634 rfl)
  have lk57 := X.2.2.2.2.1 (.fieldLink RX11 57 "BreathOnLoan$State" "crew" "LBreathOnLoan$Crew;") (inX 592 rfl)
  have lk256 := X.2.2.2.2.1 (.fieldLink RX11 256 "BreathOnLoan$Crew" "count" "I") (inX 672 rfl)
  have lk49 := X.2.2.2.2.1 (.fieldLink RX11 49 "BreathOnLoan" "shares" "[I") (inX 583 rfl)
  have lk188 := X.2.2.2.2.1 (.fieldLink RX11 188 "BreathOnLoan$Crew" "beads" "[I") (inX 647 rfl)
  have lk145 := X.2.2.2.2.1 (.fieldLink RX11 145 "BreathOnLoan$Bench" "sold" "[I") (inX 635 rfl)
  generalize hargs : ([.ref (q 0), .int a0, .int a1] : List Value).toArray = args at X ⊢
  have h := h (fun hd S => match hd with | (.inl (x1, x2, x3, x4, x5, x6)) => ∀ (H : Heap) (locs : List Loc), va_P (dC, dI) vwCl (wX q cI cT S) H → va_D A (wX q cI cT S) → va_S A s.heap H locs → ∀ ls : Array Slot, lv_has ls 8 [(0, .ref (q 0)), (1, .int x1), (2, .int x2), (3, .int x3), (4, .int x4), (5, .int x5), (6, .int x6)] → W p l e (headSpec ww_X11_payOut_0 ({ frames := 3, cells := 0, slots := 0, locals := 69 } : Room)).room s m args below meth c H locs 0 0 (MQ below (va_Qi Post (atX dC dI q cI cT A) A) args s 0 0 A) (F0 m 44 ls []) | (.inr (x1, x2, x3, x4, x5, x6)) => ∀ (H : Heap) (locs : List Loc), va_P (dC, dI) vwCl (wX q cI cT S) H → va_D A (wX q cI cT S) → va_S A s.heap H locs → ∀ ls : Array Slot, lv_has ls 8 [(0, .ref (q 0)), (1, .int x1), (2, .int x2), (3, .int x3), (4, .int x4), (5, .int x5), (6, .int x6)] → W p l e (headSpec ww_X11_payOut_0 ({ frames := 3, cells := 0, slots := 0, locals := 69 } : Room)).room s m args below meth c H locs 0 0 (MQ below (va_Qi Post (atX dC dI q cI cT A) A) args s 0 0 A) (F0 m 119 ls [])) ?_
  · skip
    refine lv_aload_n hx hb (dk DX11_payOut 0 rfl) rfl (lv_at hl 0 rfl) ?_
    refine gX_0 X hP 0 (by decide) rfl lk12 (dk DX11_payOut 1 rfl) ?_
    refine gX_1 X hP 3 (by decide) rfl lk167 (dk DX11_payOut 2 rfl) ?_
    refine lv_iconst (v := 3) hx hb (dk DX11_payOut 3 rfl) (by decide) ?_
    refine lv_iload_n hx hb (dk DX11_payOut 4 rfl) rfl (lv_at hl 1 rfl) ?_
    refine cXi (As := [.int 3, .int a0]) (rest := []) X (m_X6_push_15 (l := l) (dC := dC) (dI := dI) (q := q) (cI := cI) (cT := cT) (en := en) (sz := _) 3 a0 S h) (cwV 2 X.2.2.2.2.1 (gxV 638 639 640 497 548 rfl rfl rfl rfl rfl) rfl rfl rfl q_X6_push_15 ⟨Nat.le_of_ble_eq_true rfl, Nat.le_of_ble_eq_true rfl⟩) (rX_15 X hP) hP hD hS rfl hl.1 rfl (Nat.le_of_ble_eq_true rfl) (dk DX11_payOut 5 rfl) (fun r2 S1 H locs h hP hD hS => ?_)
    refine lv_istore_n (lv' := [(3, .int r2), (0, .ref (q 0)), (1, .int a0), (2, .int a1)]) hx hb (dk DX11_payOut 6 rfl) rfl hl (by decide) rfl (fun ls hl => ?_)
    refine lv_aload_n hx hb (dk DX11_payOut 7 rfl) rfl (lv_at hl 1 rfl) ?_
    refine gX_0 X hP 0 (by decide) rfl lk12 (dk DX11_payOut 8 rfl) ?_
    refine gX_1 X hP 1 (by decide) rfl lk75 (dk DX11_payOut 9 rfl) ?_
    refine gX_7 X hP 3 (by decide) rfl lk284 (dk DX11_payOut 10 rfl) ?_
    refine lv_aload_n hx hb (dk DX11_payOut 11 rfl) rfl (lv_at hl 1 rfl) ?_
    refine gX_0 X hP 0 (by decide) rfl lk12 (dk DX11_payOut 12 rfl) ?_
    refine gX_1 X hP 2 (by decide) rfl lk141 (dk DX11_payOut 13 rfl) ?_
    refine gX_11 X hP 2 (by decide) rfl lk201 (dk DX11_payOut 14 rfl) ?_
    refine lv_iload_n hx hb (dk DX11_payOut 15 rfl) rfl (lv_at hl 2 rfl) ?_
    obtain ⟨hin, h⟩ := h
    refine ldX_12 X hP hin (dk DX11_payOut 16 rfl) ?_
    obtain ⟨hin, h⟩ := h
    refine ldX_10 X hP hin (dk DX11_payOut 17 rfl) ?_
    refine lv_topi (fun v3 ev3 => ?_)
    have h := h v3 ev3
    refine lv_istore (lv' := [(4, .int v3), (3, .int r2), (0, .ref (q 0)), (1, .int a0), (2, .int a1)]) hx hb (dk DX11_payOut 18 rfl) hl (by decide) rfl (fun ls hl => ?_)
    refine lv_iconst (v := 0) hx hb (dk DX11_payOut 19 rfl) (by decide) ?_
    refine lv_istore (lv' := [(5, .int 0), (4, .int v3), (3, .int r2), (0, .ref (q 0)), (1, .int a0), (2, .int a1)]) hx hb (dk DX11_payOut 20 rfl) hl (by decide) rfl (fun ls hl => ?_)
    refine lv_iconst (v := 0) hx hb (dk DX11_payOut 21 rfl) (by decide) ?_
    refine lv_istore (lv' := [(6, .int 0), (5, .int 0), (4, .int v3), (3, .int r2), (0, .ref (q 0)), (1, .int a0), (2, .int a1)]) hx hb (dk DX11_payOut 22 rfl) hl (by decide) rfl (fun ls hl => ?_)
    exact h _ _ hP hD hS ls (lv_sub hl [4, 5, 6, 3, 2, 1, 0] rfl)
  · rintro (⟨x1, x2, x3, x4, x5, x6⟩ | ⟨x1, x2, x3, x4, x5, x6⟩) S hB
    · exact h_X11_payOut_0_0 X hr hlocks (hK0 := fun _ _ _ _ _ _ _ h => h) (hK1 := fun _ _ _ _ _ _ _ h => h) x1 x2 x3 x4 x5 x6 S hB
    · exact h_X11_payOut_0_1 X hr hlocks (hK0 := fun _ _ _ _ _ _ _ h => h) (hK1 := fun _ _ _ _ _ _ _ h => h) x1 x2 x3 x4 x5 x6 S hB

def ww_X2_put_48 : List Cond := .code yX2_put cX2_put 2 none :: (WdX ++ WsX)
theorem q_X2_put_48 : yX2_put.cls = RX2 ∧ yX2_put.cls ≠ "java/lang/invoke/MethodHandle" ∧ yX2_put.cls ≠ "java/lang/invoke/VarHandle" ∧ (parseMethodDescriptor yX2_put.desc).map (fun d => d.parameters.length) = some 1 := by decide +kernel
def VC_X2_put_48 (Post : XS → Prop) (a0 : Int32) (S : XS) : Prop := ((64 ≤ (S.1 1538) → Post S) ∧ (¬ 64 ≤ (S.1 1538) → vp_in (S.1 1538) 64 ∧ ∀ S1 : XS, S1 = xF S 50 (upd (S.2.1 50) (S.1 1538).toNatClampNeg a0) → ∀ v2 : Int32, v2 = (S1.1 1538) + 1 → ∀ S3 : XS, S3 = xI S1 1538 v2 → Post S3))
set_option maxHeartbeats 4000000 in
set_option maxRecDepth 100000 in
theorem m_X2_put_48 {l : Launch} {dC : Nat → ClassId} {dI : Nat → Nat → Nat} {q : Nat → Nat} {cI cT : ClassId} {en : Nat → Nat} {sz : Nat} {Post : XS → Prop} (a0 : Int32) (S : XS) (h : VC_X2_put_48 Post a0 S) : Met l yX2_put ww_X2_put_48 ({ frames := 0, cells := 0, slots := 0, locals := 0 } : Room) (va_Pc [.ref (q 48), .int a0] (preX dC dI q cI cT en S sz)) (va_Qv Post (atX dC dI q cI cT (va_A (wX q cI cT S) sz)) (va_A (wX q cI cT S) sz)) 0 0 (va_A (wX q cI cT S) sz) := by
  refine oX (cc := cX2_put) (maxL := 2) (ret := none) (Qc := fun A => va_Qv Post (atX dC dI q cI cT A) A) (own := RX2) (by decide) rfl (fun w h => List.mem_cons_of_mem _ (List.mem_append_right _ h)) rfl (Nat.le_of_ble_eq_true rfl) (fun p e s m below meth c A ls X hr hlocks hP hD hS hl => ?_)
  have hx := X.1
  have hb := X.2.1
  have hl : lv_has ls 2 [(0, .ref (q 48)), (1, .int a0)] := hl
  have lk113 := X.2.2.2.2.1 (.fieldLink RX2 113 "BreathOnLoan$Judge" "top" "I") (inX 80 rfl)
  have lk15 := X.2.2.2.2.1 (.fieldLink RX2 15 "BreathOnLoan$Judge" "stack" "[I") (inX 56 rfl)
  dsimp only [VC_X2_put_48] at h
  refine lv_aload_n hx hb (dk DX2_put 0 rfl) rfl (lv_at hl 0 rfl) ?_
  refine gX_48 X hP 2 (by decide) rfl lk113 (dk DX2_put 1 rfl) ?_
  refine lv_aload_n hx hb (dk DX2_put 2 rfl) rfl (lv_at hl 0 rfl) ?_
  refine gX_48 X hP 1 (by decide) rfl lk15 (dk DX2_put 3 rfl) ?_
  refine alX_50 X hP (dk DX2_put 4 rfl) ?_
  refine lv_icmp_ge (tgt := 32) hx hb (dk DX2_put 5 rfl) (by decide) (fun hc => ?_) (fun hc => ?_)
  · have h := h.1 hc
    exact W.vret hx hb hr (fun t ht hW => ⟨⟨_, rfl, h, by rw [ht]; exact hP, va_K.moved hW.alike X.2.2.2.2.2.2.1, hD⟩, hS.F ht⟩) hS.2.2 (dk DX2_put 18 rfl)
  · have h := h.2 hc
    refine lv_aload_n hx hb (dk DX2_put 6 rfl) rfl (lv_at hl 0 rfl) ?_
    refine gX_48 X hP 1 (by decide) rfl lk15 (dk DX2_put 7 rfl) ?_
    refine lv_aload_n hx hb (dk DX2_put 8 rfl) rfl (lv_at hl 0 rfl) ?_
    refine gX_48 X hP 2 (by decide) rfl lk113 (dk DX2_put 9 rfl) ?_
    refine lv_iload_n hx hb (dk DX2_put 10 rfl) rfl (lv_at hl 1 rfl) ?_
    obtain ⟨hin, h⟩ := h
    refine stX_50 X hP hD hS hin (dk DX2_put 11 rfl) (fun S1 eS1 H locs hP hD hS => ?_)
    have h := h S1 eS1
    refine lv_aload_n hx hb (dk DX2_put 12 rfl) rfl (lv_at hl 0 rfl) ?_
    refine lv_dup hx hb (dk DX2_put 13 rfl) rfl ?_
    refine gX_48 X hP 2 (by decide) rfl lk113 (dk DX2_put 14 rfl) ?_
    refine lv_iconst (v := 1) hx hb (dk DX2_put 15 rfl) (by decide) ?_
    refine lv_iadd hx hb (dk DX2_put 16 rfl) ?_
    refine lv_topi (fun v2 ev2 => ?_)
    have h := h v2 ev2
    refine pX_48_2 X hP hD hS lk113 (dk DX2_put 17 rfl) (fun S3 eS3 H locs hP hD hS => ?_)
    have h := h S3 eS3
    exact W.vret hx hb hr (fun t ht hW => ⟨⟨_, rfl, h, by rw [ht]; exact hP, va_K.moved hW.alike X.2.2.2.2.2.2.1, hD⟩, hS.F ht⟩) hS.2.2 (dk DX2_put 18 rfl)

def ww_X2_takeTop_48 : List Cond := .code yX2_takeTop cX2_takeTop 1 (some .int) :: (WdX ++ WsX)
theorem q_X2_takeTop_48 : yX2_takeTop.cls = RX2 ∧ yX2_takeTop.cls ≠ "java/lang/invoke/MethodHandle" ∧ yX2_takeTop.cls ≠ "java/lang/invoke/VarHandle" ∧ (parseMethodDescriptor yX2_takeTop.desc).map (fun d => d.parameters.length) = some 0 := by decide +kernel
def VC_X2_takeTop_48 (Post : Int32 → XS → Prop) (S : XS) : Prop := ((¬ (S.1 1538) = 0 → ∀ v1 : Int32, v1 = (S.1 1538) - 1 → ∀ S2 : XS, S2 = xI S 1538 v1 → vp_in (S2.1 1538) 64 ∧ Post ((S2.2.1 50) (S2.1 1538).toNatClampNeg) S2) ∧ ((S.1 1538) = 0 → Post 0 S))
set_option maxHeartbeats 4000000 in
set_option maxRecDepth 100000 in
theorem m_X2_takeTop_48 {l : Launch} {dC : Nat → ClassId} {dI : Nat → Nat → Nat} {q : Nat → Nat} {cI cT : ClassId} {en : Nat → Nat} {sz : Nat} {Post : Int32 → XS → Prop} (S : XS) (h : VC_X2_takeTop_48 Post S) : Met l yX2_takeTop ww_X2_takeTop_48 ({ frames := 0, cells := 0, slots := 0, locals := 0 } : Room) (va_Pc [.ref (q 48)] (preX dC dI q cI cT en S sz)) (va_Qi Post (atX dC dI q cI cT (va_A (wX q cI cT S) sz)) (va_A (wX q cI cT S) sz)) 0 0 (va_A (wX q cI cT S) sz) := by
  refine oX (cc := cX2_takeTop) (maxL := 1) (ret := (some .int)) (Qc := fun A => va_Qi Post (atX dC dI q cI cT A) A) (own := RX2) (by decide) rfl (fun w h => List.mem_cons_of_mem _ (List.mem_append_right _ h)) rfl (Nat.le_of_ble_eq_true rfl) (fun p e s m below meth c A ls X hr hlocks hP hD hS hl => ?_)
  have hx := X.1
  have hb := X.2.1
  have hl : lv_has ls 1 [(0, .ref (q 48))] := hl
  have lk113 := X.2.2.2.2.1 (.fieldLink RX2 113 "BreathOnLoan$Judge" "top" "I") (inX 80 rfl)
  have lk15 := X.2.2.2.2.1 (.fieldLink RX2 15 "BreathOnLoan$Judge" "stack" "[I") (inX 56 rfl)
  dsimp only [VC_X2_takeTop_48] at h
  refine lv_aload_n hx hb (dk DX2_takeTop 0 rfl) rfl (lv_at hl 0 rfl) ?_
  refine gX_48 X hP 2 (by decide) rfl lk113 (dk DX2_takeTop 1 rfl) ?_
  refine lv_if_ne (tgt := 9) hx hb (dk DX2_takeTop 2 rfl) (by decide) (fun hc => ?_) (fun hc => ?_)
  · have h := h.1 hc
    refine lv_aload_n hx hb (dk DX2_takeTop 5 rfl) rfl (lv_at hl 0 rfl) ?_
    refine lv_dup hx hb (dk DX2_takeTop 6 rfl) rfl ?_
    refine gX_48 X hP 2 (by decide) rfl lk113 (dk DX2_takeTop 7 rfl) ?_
    refine lv_iconst (v := 1) hx hb (dk DX2_takeTop 8 rfl) (by decide) ?_
    refine lv_isub hx hb (dk DX2_takeTop 9 rfl) ?_
    refine lv_topi (fun v1 ev1 => ?_)
    have h := h v1 ev1
    refine pX_48_2 X hP hD hS lk113 (dk DX2_takeTop 10 rfl) (fun S2 eS2 H locs hP hD hS => ?_)
    have h := h S2 eS2
    refine lv_aload_n hx hb (dk DX2_takeTop 11 rfl) rfl (lv_at hl 0 rfl) ?_
    refine gX_48 X hP 1 (by decide) rfl lk15 (dk DX2_takeTop 12 rfl) ?_
    refine lv_aload_n hx hb (dk DX2_takeTop 13 rfl) rfl (lv_at hl 0 rfl) ?_
    refine gX_48 X hP 2 (by decide) rfl lk113 (dk DX2_takeTop 14 rfl) ?_
    obtain ⟨hin, h⟩ := h
    refine ldX_50 X hP hin (dk DX2_takeTop 15 rfl) ?_
    exact W.iret (v := (S2.2.1 50) (S2.1 1538).toNatClampNeg) hx hb hr (fun t ht hW => ⟨⟨_, _, rfl, h, by rw [ht]; exact hP, va_K.moved hW.alike X.2.2.2.2.2.2.1, hD⟩, hS.F ht⟩) hS.2.2 (dk DX2_takeTop 16 rfl)
  · have h := h.2 hc
    refine lv_iconst (v := 0) hx hb (dk DX2_takeTop 3 rfl) (by decide) ?_
    exact W.iret (v := 0) hx hb hr (fun t ht hW => ⟨⟨_, _, rfl, h, by rw [ht]; exact hP, va_K.moved hW.alike X.2.2.2.2.2.2.1, hD⟩, hS.F ht⟩) hS.2.2 (dk DX2_takeTop 4 rfl)

