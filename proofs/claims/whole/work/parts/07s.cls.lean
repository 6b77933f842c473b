-- X11_sell_0 X11_perform_0 X11_played_0 X11_odds_0 X11_plan_0 X11_copyRow_3_23 X11_copyRow_4_24 X11_copyRow_5_25
def ww_X11_sell_0 : List Cond := .code yX11_sell cX11_sell 2 (some .int) :: (WdX ++ WsX)
theorem q_X11_sell_0 : yX11_sell.cls = RX11 ∧ yX11_sell.cls ≠ "java/lang/invoke/MethodHandle" ∧ yX11_sell.cls ≠ "java/lang/invoke/VarHandle" ∧ (parseMethodDescriptor yX11_sell.desc).map (fun d => d.parameters.length) = some 1 := by decide +kernel
def VC_X11_sell_0 (Post : Int32 → XS → Prop) (a0 : Int32) (S : XS) : Prop := VC_X5_stateOf_1 (fun r2 S1 => ((¬ r2 = 1 → Post (-1) S1) ∧ (r2 = 1 → vp_in a0 10 ∧ ((((S1.2.1 13) a0.toNatClampNeg) = 0 → VC_X11_addShares_0 (fun r4 S3 => VC_X11_payOut_0 (fun r6 S5 => Post r6 S5) a0 r4 S3) a0 S1) ∧ (¬ ((S1.2.1 13) a0.toNatClampNeg) = 0 → Post (-1) S1))))) a0 S
set_option maxHeartbeats 4000000 in
set_option maxRecDepth 100000 in
theorem m_X11_sell_0 {l : Launch} {dC : Nat → ClassId} {dI : Nat → Nat → Nat} {q : Nat → Nat} {cI cT : ClassId} {en : Nat → Nat} {sz : Nat} {Post : Int32 → XS → Prop} (a0 : Int32) (S : XS) (h : VC_X11_sell_0 Post a0 S) : Met l yX11_sell ww_X11_sell_0 ({ frames := 6, cells := 0, slots := 0, locals := 161 } : Room) (va_Pc [.ref (q 0), .int a0] (preX dC dI q cI cT en S sz)) (va_Qi Post (atX dC dI q cI cT (va_A (wX q cI cT S) sz)) (va_A (wX q cI cT S) sz)) 0 0 (va_A (wX q cI cT S) sz) := by
  refine oX (cc := cX11_sell) (maxL := 2) (ret := (some .int)) (Qc := fun A => va_Qi Post (atX dC dI q cI cT A) A) (own := RX11) (by decide) rfl (fun w h => List.mem_cons_of_mem _ (List.mem_append_right _ h)) rfl (Nat.le_of_ble_eq_true rfl) (fun p e s m below meth c A ls X hr hlocks hP hD hS hl => ?_)
  have hx := X.1
  have hb := X.2.1
  have hl : lv_has ls 2 [(0, .ref (q 0)), (1, .int a0)] := hl
  have lk12 := X.2.2.2.2.1 (.fieldLink RX11 12 "BreathOnLoan" "now" "LBreathOnLoan$State;") (inX 568 rfl)
  have lk141 := X.2.2.2.2.1 (.fieldLink RX11 141 "BreathOnLoan$State" "bench" "LBreathOnLoan$Bench;") (inX 632 rfl)
  have lk145 := X.2.2.2.2.1 (.fieldLink RX11 145 "BreathOnLoan$Bench" "sold" "[I") (inX 635 rfl)
  dsimp only [VC_X11_sell_0] at h
  refine lv_aload_n hx hb (dk DX11_sell 0 rfl) rfl (lv_at hl 0 rfl) ?_
  refine gX_0 X hP 0 (by decide) rfl lk12 (dk DX11_sell 1 rfl) ?_
  refine lv_iload_n hx hb (dk DX11_sell 2 rfl) rfl (lv_at hl 1 rfl) ?_
  refine cXi (As := [.int a0]) (rest := []) X (m_X5_stateOf_1 (l := l) (dC := dC) (dI := dI) (q := q) (cI := cI) (cT := cT) (en := en) (sz := _) a0 S h) (cwV 1 X.2.2.2.2.1 (gxV 652 653 654 67 520 rfl rfl rfl rfl rfl) rfl rfl rfl q_X5_stateOf_1 ⟨Nat.le_of_ble_eq_true rfl, Nat.le_of_ble_eq_true rfl⟩) (rX_1 X hP) hP hD hS rfl hl.1 rfl (Nat.le_of_ble_eq_true rfl) (dk DX11_sell 3 rfl) (fun r2 S1 H locs h hP hD hS => ?_)
  refine lv_iconst (v := 1) hx hb (dk DX11_sell 4 rfl) (by decide) ?_
  refine lv_icmp_ne (tgt := 27) hx hb (dk DX11_sell 5 rfl) (by decide) (fun hc => ?_) (fun hc => ?_)
  · have h := h.1 hc
    refine lv_iconst (v := (-1)) hx hb (dk DX11_sell 13 rfl) (by decide) ?_
    exact W.iret (v := (-1)) hx hb hr (fun t ht hW => ⟨⟨_, _, rfl, h, by rw [ht]; exact hP, va_K.moved hW.alike X.2.2.2.2.2.2.1, hD⟩, hS.F ht⟩) hS.2.2 (dk DX11_sell 14 rfl)
  · have h := h.2 hc
    refine lv_aload_n hx hb (dk DX11_sell 6 rfl) rfl (lv_at hl 0 rfl) ?_
    refine gX_0 X hP 0 (by decide) rfl lk12 (dk DX11_sell 7 rfl) ?_
    refine gX_1 X hP 2 (by decide) rfl lk141 (dk DX11_sell 8 rfl) ?_
    refine gX_11 X hP 3 (by decide) rfl lk145 (dk DX11_sell 9 rfl) ?_
    refine lv_iload_n hx hb (dk DX11_sell 10 rfl) rfl (lv_at hl 1 rfl) ?_
    obtain ⟨hin, h⟩ := h
    refine ldX_13 X hP hin (dk DX11_sell 11 rfl) ?_
    refine lv_if_eq (tgt := 29) hx hb (dk DX11_sell 12 rfl) (by decide) (fun hc => ?_) (fun hc => ?_)
    · have h := h.1 hc
      refine lv_aload_n hx hb (dk DX11_sell 15 rfl) rfl (lv_at hl 0 rfl) ?_
      refine lv_iload_n hx hb (dk DX11_sell 16 rfl) rfl (lv_at hl 1 rfl) ?_
      refine lv_aload_n hx hb (dk DX11_sell 17 rfl) rfl (lv_at hl 0 rfl) ?_
      refine lv_iload_n hx hb (dk DX11_sell 18 rfl) rfl (lv_at hl 1 rfl) ?_
      refine cXi (As := [.int a0]) (rest := [.int a0, .ref (q 0)]) X (m_X11_addShares_0 (l := l) (dC := dC) (dI := dI) (q := q) (cI := cI) (cT := cT) (en := en) (sz := _) a0 S1 h) (cwV 1 X.2.2.2.2.1 (gxV 679 680 681 16 676 rfl rfl rfl rfl rfl) rfl rfl rfl q_X11_addShares_0 ⟨Nat.le_of_ble_eq_true rfl, Nat.le_of_ble_eq_true rfl⟩) (rX_0 X hP) hP hD hS rfl hl.1 rfl (Nat.le_of_ble_eq_true rfl) (dk DX11_sell 19 rfl) (fun r4 S3 H locs h hP hD hS => ?_)
      refine cXi (As := [.int a0, .int r4]) (rest := []) X (m_X11_payOut_0 (l := l) (dC := dC) (dI := dI) (q := q) (cI := cI) (cT := cT) (en := en) (sz := _) a0 r4 S3 h) (cwV 2 X.2.2.2.2.1 (gxV 682 683 684 16 678 rfl rfl rfl rfl rfl) rfl rfl rfl q_X11_payOut_0 ⟨Nat.le_of_ble_eq_true rfl, Nat.le_of_ble_eq_true rfl⟩) (rX_0 X hP) hP hD hS rfl hl.1 rfl (Nat.le_of_ble_eq_true rfl) (dk DX11_sell 20 rfl) (fun r6 S5 H locs h hP hD hS => ?_)
      exact W.iret (v := r6) hx hb hr (fun t ht hW => ⟨⟨_, _, rfl, h, by rw [ht]; exact hP, va_K.moved hW.alike X.2.2.2.2.2.2.1, hD⟩, hS.F ht⟩) hS.2.2 (dk DX11_sell 21 rfl)
    · have h := h.2 hc
      refine lv_iconst (v := (-1)) hx hb (dk DX11_sell 13 rfl) (by decide) ?_
      exact W.iret (v := (-1)) hx hb hr (fun t ht hW => ⟨⟨_, _, rfl, h, by rw [ht]; exact hP, va_K.moved hW.alike X.2.2.2.2.2.2.1, hD⟩, hS.F ht⟩) hS.2.2 (dk DX11_sell 14 rfl)

def ww_X11_perform_0 : List Cond := .code yX11_perform cX11_perform 3 (some .boolean) :: (WdX ++ WsX)
theorem q_X11_perform_0 : yX11_perform.cls = RX11 ∧ yX11_perform.cls ≠ "java/lang/invoke/MethodHandle" ∧ yX11_perform.cls ≠ "java/lang/invoke/VarHandle" ∧ (parseMethodDescriptor yX11_perform.desc).map (fun d => d.parameters.length) = some 2 := by decide +kernel
def VC_X11_perform_0 (Post : Int32 → XS → Prop) (a0 : Nat) (a1 : Int32) (S : XS) : Prop := ∃ t1 : TR, tx S a0 t1 ∧ VC_X9_orderOf_x (fun r3 S2 => ((r3 = 36 → ∃ t4 : TR, tx S2 a0 t4 ∧ VC_X9_orderOf_x (fun r6 S5 => VC_X11_startPiece_0 (fun r8 S7 => ((r8 = (-1) → Post 0 S7) ∧ (¬ r8 = (-1) → Post 1 S7))) r6 S5) a0 a1 1 S2) ∧ (r3 = 37 → ∃ t9 : TR, tx S2 a0 t9 ∧ VC_X9_orderOf_x (fun r11 S10 => ∃ t12 : TR, tx S10 a0 t12 ∧ VC_X9_orderOf_x (fun r14 S13 => ∃ t15 : TR, tx S13 a0 t15 ∧ VC_X9_orderOf_x (fun r17 S16 => VC_X11_addBubble_0 (fun r19 S18 => ((r19 = (-1) → Post 0 S18) ∧ (¬ r19 = (-1) → Post 1 S18))) r11 r14 r17 S16) a0 a1 3 S13) a0 a1 2 S10) a0 a1 1 S2) ∧ (r3 = 38 → ∃ t20 : TR, tx S2 a0 t20 ∧ VC_X9_orderOf_x (fun r22 S21 => VC_X11_passHours_0 (fun r24 S23 => ((r24 = (-1) → Post 0 S23) ∧ (¬ r24 = (-1) → Post 1 S23))) r22 S21) a0 a1 1 S2) ∧ (¬ r3 = 36 → ¬ r3 = 37 → ¬ r3 = 38 → Post 1 S2))) a0 a1 0 S
set_option maxHeartbeats 4000000 in
set_option maxRecDepth 100000 in
theorem m_X11_perform_0 {l : Launch} {dC : Nat → ClassId} {dI : Nat → Nat → Nat} {q : Nat → Nat} {cI cT : ClassId} {en : Nat → Nat} {sz : Nat} {Post : Int32 → XS → Prop} (a0 : Nat) (a1 : Int32) (S : XS) (h : VC_X11_perform_0 Post a0 a1 S) : Met l yX11_perform ww_X11_perform_0 ({ frames := 6, cells := 0, slots := 0, locals := 163 } : Room) (va_Pc [.ref (q 0), .ref a0, .int a1] (preX dC dI q cI cT en S sz)) (va_Qi Post (atX dC dI q cI cT (va_A (wX q cI cT S) sz)) (va_A (wX q cI cT S) sz)) 0 0 (va_A (wX q cI cT S) sz) := by
  refine oX (cc := cX11_perform) (maxL := 3) (ret := (some .boolean)) (Qc := fun A => va_Qi Post (atX dC dI q cI cT A) A) (own := RX11) (by decide) rfl (fun w h => List.mem_cons_of_mem _ (List.mem_append_right _ h)) rfl (Nat.le_of_ble_eq_true rfl) (fun p e s m below meth c A ls X hr hlocks hP hD hS hl => ?_)
  have hx := X.1
  have hb := X.2.1
  have hl : lv_has ls 3 [(0, .ref (q 0)), (1, .ref a0), (2, .int a1)] := hl
  dsimp only [VC_X11_perform_0] at h
  refine lv_aload_n hx hb (dk DX11_perform 0 rfl) rfl (lv_at hl 1 rfl) ?_
  refine lv_iload_n hx hb (dk DX11_perform 1 rfl) rfl (lv_at hl 2 rfl) ?_
  refine lv_iconst (v := 0) hx hb (dk DX11_perform 2 rfl) (by decide) ?_
  obtain ⟨t1, ht1, h⟩ := h
  refine cXi (As := [.int a1, .int 0]) (rest := []) X (m_X9_orderOf_x (l := l) (dC := dC) (dI := dI) (q := q) (cI := cI) (cT := cT) (en := en) (sz := _) a0 a1 0 S h) (cwV 2 X.2.2.2.2.1 (gxV 686 687 688 71 563 rfl rfl rfl rfl rfl) rfl rfl rfl q_X9_orderOf_x ⟨Nat.le_of_ble_eq_true rfl, Nat.le_of_ble_eq_true rfl⟩) (rT X hP ht1) hP hD hS rfl hl.1 rfl (Nat.le_of_ble_eq_true rfl) (dk DX11_perform 3 rfl) (fun r3 S2 H locs h hP hD hS => ?_)
  by_cases hc36 : r3 = 36
  · have h := h.1 hc36
    refine lv_tableIn (off := 26) (tgt := 32) hx hb (dk DX11_perform 4 rfl) (by rw [hc36]; decide) (by rw [hc36]; decide) (by rw [hc36]; decide) (by decide) ?_
    refine lv_aload_n hx hb (dk DX11_perform 5 rfl) rfl (lv_at hl 0 rfl) ?_
    refine lv_aload_n hx hb (dk DX11_perform 6 rfl) rfl (lv_at hl 1 rfl) ?_
    refine lv_iload_n hx hb (dk DX11_perform 7 rfl) rfl (lv_at hl 2 rfl) ?_
    refine lv_iconst (v := 1) hx hb (dk DX11_perform 8 rfl) (by decide) ?_
    obtain ⟨t4, ht4, h⟩ := h
    refine cXi (As := [.int a1, .int 1]) (rest := [.ref (q 0)]) X (m_X9_orderOf_x (l := l) (dC := dC) (dI := dI) (q := q) (cI := cI) (cT := cT) (en := en) (sz := _) a0 a1 1 S2 h) (cwV 2 X.2.2.2.2.1 (gxV 686 687 688 71 563 rfl rfl rfl rfl rfl) rfl rfl rfl q_X9_orderOf_x ⟨Nat.le_of_ble_eq_true rfl, Nat.le_of_ble_eq_true rfl⟩) (rT X hP ht4) hP hD hS rfl hl.1 rfl (Nat.le_of_ble_eq_true rfl) (dk DX11_perform 9 rfl) (fun r6 S5 H locs h hP hD hS => ?_)
    refine cXi (As := [.int r6]) (rest := []) X (m_X11_startPiece_0 (l := l) (dC := dC) (dI := dI) (q := q) (cI := cI) (cT := cT) (en := en) (sz := _) r6 S5 h) (cwV 1 X.2.2.2.2.1 (gxV 642 643 644 16 641 rfl rfl rfl rfl rfl) rfl rfl rfl q_X11_startPiece_0 ⟨Nat.le_of_ble_eq_true rfl, Nat.le_of_ble_eq_true rfl⟩) (rX_0 X hP) hP hD hS rfl hl.1 rfl (Nat.le_of_ble_eq_true rfl) (dk DX11_perform 10 rfl) (fun r8 S7 H locs h hP hD hS => ?_)
    refine lv_iconst (v := (-1)) hx hb (dk DX11_perform 11 rfl) (by decide) ?_
    refine lv_icmp_eq (tgt := 50) hx hb (dk DX11_perform 12 rfl) (by decide) (fun hc => ?_) (fun hc => ?_)
    · have h := h.1 hc
      refine lv_iconst (v := 0) hx hb (dk DX11_perform 15 rfl) (by decide) ?_
      exact W.zret (v := 0) hx hb hr (by decide) (fun t ht hW => ⟨⟨_, _, rfl, h, by rw [ht]; exact hP, va_K.moved hW.alike X.2.2.2.2.2.2.1, hD⟩, hS.F ht⟩) hS.2.2 (dk DX11_perform 16 rfl)
    · have h := h.2 hc
      refine lv_iconst (v := 1) hx hb (dk DX11_perform 13 rfl) (by decide) ?_
      refine lv_goto (tgt := 51) hx hb (dk DX11_perform 14 rfl) (by decide) ?_
      exact W.zret (v := 1) hx hb hr (by decide) (fun t ht hW => ⟨⟨_, _, rfl, h, by rw [ht]; exact hP, va_K.moved hW.alike X.2.2.2.2.2.2.1, hD⟩, hS.F ht⟩) hS.2.2 (dk DX11_perform 16 rfl)
  have h := h.2
  by_cases hc37 : r3 = 37
  · have h := h.1 hc37
    refine lv_tableIn (off := 46) (tgt := 52) hx hb (dk DX11_perform 4 rfl) (by rw [hc37]; decide) (by rw [hc37]; decide) (by rw [hc37]; decide) (by decide) ?_
    refine lv_aload_n hx hb (dk DX11_perform 17 rfl) rfl (lv_at hl 0 rfl) ?_
    refine lv_aload_n hx hb (dk DX11_perform 18 rfl) rfl (lv_at hl 1 rfl) ?_
    refine lv_iload_n hx hb (dk DX11_perform 19 rfl) rfl (lv_at hl 2 rfl) ?_
    refine lv_iconst (v := 1) hx hb (dk DX11_perform 20 rfl) (by decide) ?_
    obtain ⟨t9, ht9, h⟩ := h
    refine cXi (As := [.int a1, .int 1]) (rest := [.ref (q 0)]) X (m_X9_orderOf_x (l := l) (dC := dC) (dI := dI) (q := q) (cI := cI) (cT := cT) (en := en) (sz := _) a0 a1 1 S2 h) (cwV 2 X.2.2.2.2.1 (gxV 686 687 688 71 563 rfl rfl rfl rfl rfl) rfl rfl rfl q_X9_orderOf_x ⟨Nat.le_of_ble_eq_true rfl, Nat.le_of_ble_eq_true rfl⟩) (rT X hP ht9) hP hD hS rfl hl.1 rfl (Nat.le_of_ble_eq_true rfl) (dk DX11_perform 21 rfl) (fun r11 S10 H locs h hP hD hS => ?_)
    refine lv_aload_n hx hb (dk DX11_perform 22 rfl) rfl (lv_at hl 1 rfl) ?_
    refine lv_iload_n hx hb (dk DX11_perform 23 rfl) rfl (lv_at hl 2 rfl) ?_
    refine lv_iconst (v := 2) hx hb (dk DX11_perform 24 rfl) (by decide) ?_
    obtain ⟨t12, ht12, h⟩ := h
    refine cXi (As := [.int a1, .int 2]) (rest := [.int r11, .ref (q 0)]) X (m_X9_orderOf_x (l := l) (dC := dC) (dI := dI) (q := q) (cI := cI) (cT := cT) (en := en) (sz := _) a0 a1 2 S10 h) (cwV 2 X.2.2.2.2.1 (gxV 686 687 688 71 563 rfl rfl rfl rfl rfl) rfl rfl rfl q_X9_orderOf_x ⟨Nat.le_of_ble_eq_true rfl, Nat.le_of_ble_eq_true rfl⟩) (rT X hP ht12) hP hD hS rfl hl.1 rfl (Nat.le_of_ble_eq_true rfl) (dk DX11_perform 25 rfl) (fun r14 S13 H locs h hP hD hS => ?_)
    refine lv_aload_n hx hb (dk DX11_perform 26 rfl) rfl (lv_at hl 1 rfl) ?_
    refine lv_iload_n hx hb (dk DX11_perform 27 rfl) rfl (lv_at hl 2 rfl) ?_
    refine lv_iconst (v := 3) hx hb (dk DX11_perform 28 rfl) (by decide) ?_
    obtain ⟨t15, ht15, h⟩ := h
    refine cXi (As := [.int a1, .int 3]) (rest := [.int r14, .int r11, .ref (q 0)]) X (m_X9_orderOf_x (l := l) (dC := dC) (dI := dI) (q := q) (cI := cI) (cT := cT) (en := en) (sz := _) a0 a1 3 S13 h) (cwV 2 X.2.2.2.2.1 (gxV 686 687 688 71 563 rfl rfl rfl rfl rfl) rfl rfl rfl q_X9_orderOf_x ⟨Nat.le_of_ble_eq_true rfl, Nat.le_of_ble_eq_true rfl⟩) (rT X hP ht15) hP hD hS rfl hl.1 rfl (Nat.le_of_ble_eq_true rfl) (dk DX11_perform 29 rfl) (fun r17 S16 H locs h hP hD hS => ?_)
    refine cXi (As := [.int r11, .int r14, .int r17]) (rest := []) X (m_X11_addBubble_0 (l := l) (dC := dC) (dI := dI) (q := q) (cI := cI) (cT := cT) (en := en) (sz := _) r11 r14 r17 S16 h) (cwV 3 X.2.2.2.2.1 (gxV 663 664 665 16 662 rfl rfl rfl rfl rfl) rfl rfl rfl q_X11_addBubble_0 ⟨Nat.le_of_ble_eq_true rfl, Nat.le_of_ble_eq_true rfl⟩) (rX_0 X hP) hP hD hS rfl hl.1 rfl (Nat.le_of_ble_eq_true rfl) (dk DX11_perform 30 rfl) (fun r19 S18 H locs h hP hD hS => ?_)
    refine lv_iconst (v := (-1)) hx hb (dk DX11_perform 31 rfl) (by decide) ?_
    refine lv_icmp_eq (tgt := 82) hx hb (dk DX11_perform 32 rfl) (by decide) (fun hc => ?_) (fun hc => ?_)
    · have h := h.1 hc
      refine lv_iconst (v := 0) hx hb (dk DX11_perform 35 rfl) (by decide) ?_
      exact W.zret (v := 0) hx hb hr (by decide) (fun t ht hW => ⟨⟨_, _, rfl, h, by rw [ht]; exact hP, va_K.moved hW.alike X.2.2.2.2.2.2.1, hD⟩, hS.F ht⟩) hS.2.2 (dk DX11_perform 36 rfl)
    · have h := h.2 hc
      refine lv_iconst (v := 1) hx hb (dk DX11_perform 33 rfl) (by decide) ?_
      refine lv_goto (tgt := 83) hx hb (dk DX11_perform 34 rfl) (by decide) ?_
      exact W.zret (v := 1) hx hb hr (by decide) (fun t ht hW => ⟨⟨_, _, rfl, h, by rw [ht]; exact hP, va_K.moved hW.alike X.2.2.2.2.2.2.1, hD⟩, hS.F ht⟩) hS.2.2 (dk DX11_perform 36 rfl)
  have h := h.2
  by_cases hc38 : r3 = 38
  · have h := h.1 hc38
    refine lv_tableIn (off := 78) (tgt := 84) hx hb (dk DX11_perform 4 rfl) (by rw [hc38]; decide) (by rw [hc38]; decide) (by rw [hc38]; decide) (by decide) ?_
    refine lv_aload_n hx hb (dk DX11_perform 37 rfl) rfl (lv_at hl 0 rfl) ?_
    refine lv_aload_n hx hb (dk DX11_perform 38 rfl) rfl (lv_at hl 1 rfl) ?_
    refine lv_iload_n hx hb (dk DX11_perform 39 rfl) rfl (lv_at hl 2 rfl) ?_
    refine lv_iconst (v := 1) hx hb (dk DX11_perform 40 rfl) (by decide) ?_
    obtain ⟨t20, ht20, h⟩ := h
    refine cXi (As := [.int a1, .int 1]) (rest := [.ref (q 0)]) X (m_X9_orderOf_x (l := l) (dC := dC) (dI := dI) (q := q) (cI := cI) (cT := cT) (en := en) (sz := _) a0 a1 1 S2 h) (cwV 2 X.2.2.2.2.1 (gxV 686 687 688 71 563 rfl rfl rfl rfl rfl) rfl rfl rfl q_X9_orderOf_x ⟨Nat.le_of_ble_eq_true rfl, Nat.le_of_ble_eq_true rfl⟩) (rT X hP ht20) hP hD hS rfl hl.1 rfl (Nat.le_of_ble_eq_true rfl) (dk DX11_perform 41 rfl) (fun r22 S21 H locs h hP hD hS => ?_)
    refine cXi (As := [.int r22]) (rest := []) X (m_X11_passHours_0 (l := l) (dC := dC) (dI := dI) (q := q) (cI := cI) (cT := cT) (en := en) (sz := _) r22 S21 h) (cwV 1 X.2.2.2.2.1 (gxV 668 669 670 16 667 rfl rfl rfl rfl rfl) rfl rfl rfl q_X11_passHours_0 ⟨Nat.le_of_ble_eq_true rfl, Nat.le_of_ble_eq_true rfl⟩) (rX_0 X hP) hP hD hS rfl hl.1 rfl (Nat.le_of_ble_eq_true rfl) (dk DX11_perform 42 rfl) (fun r24 S23 H locs h hP hD hS => ?_)
    refine lv_iconst (v := (-1)) hx hb (dk DX11_perform 43 rfl) (by decide) ?_
    refine lv_icmp_eq (tgt := 102) hx hb (dk DX11_perform 44 rfl) (by decide) (fun hc => ?_) (fun hc => ?_)
    · have h := h.1 hc
      refine lv_iconst (v := 0) hx hb (dk DX11_perform 47 rfl) (by decide) ?_
      exact W.zret (v := 0) hx hb hr (by decide) (fun t ht hW => ⟨⟨_, _, rfl, h, by rw [ht]; exact hP, va_K.moved hW.alike X.2.2.2.2.2.2.1, hD⟩, hS.F ht⟩) hS.2.2 (dk DX11_perform 48 rfl)
    · have h := h.2 hc
      refine lv_iconst (v := 1) hx hb (dk DX11_perform 45 rfl) (by decide) ?_
      refine lv_goto (tgt := 103) hx hb (dk DX11_perform 46 rfl) (by decide) ?_
      exact W.zret (v := 1) hx hb hr (by decide) (fun t ht hW => ⟨⟨_, _, rfl, h, by rw [ht]; exact hP, va_K.moved hW.alike X.2.2.2.2.2.2.1, hD⟩, hS.F ht⟩) hS.2.2 (dk DX11_perform 48 rfl)
  have h := h.2
  have h := h hc36 hc37 hc38
  refine lv_tableOut (tgt := 104) hx hb (dk DX11_perform 4 rfl) (by have n36 := lv_neT hc36 (a := 36) (by decide); have n37 := lv_neT hc37 (a := 37) (by decide); have n38 := lv_neT hc38 (a := 38) (by decide); omega) (by decide) ?_
  refine lv_iconst (v := 1) hx hb (dk DX11_perform 49 rfl) (by decide) ?_
  exact W.zret (v := 1) hx hb hr (by decide) (fun t ht hW => ⟨⟨_, _, rfl, h, by rw [ht]; exact hP, va_K.moved hW.alike X.2.2.2.2.2.2.1, hD⟩, hS.F ht⟩) hS.2.2 (dk DX11_perform 50 rfl)

def ww_X11_played_0 : List Cond := .code yX11_played cX11_played 4 (some .int) :: (WdX ++ WsX)
theorem q_X11_played_0 : yX11_played.cls = RX11 ∧ yX11_played.cls ≠ "java/lang/invoke/MethodHandle" ∧ yX11_played.cls ≠ "java/lang/invoke/VarHandle" ∧ (parseMethodDescriptor yX11_played.desc).map (fun d => d.parameters.length) = some 1 := by decide +kernel
abbrev Hd_X11_played_0 : Type := (Int32 × Nat × Int32)
def B_X11_played_0 (Post : Int32 → XS → Prop) (K : Hd_X11_played_0 → XS → Prop) : Hd_X11_played_0 → XS → Prop
  | (x1, x2, x3), S => ∃ t4 : TR, tx S x2 t4 ∧ VC_X9_clauses_x (fun r6 S5 => ((r6 ≤ x3 → Post (-1) S5) ∧ (¬ r6 ≤ x3 → VC_X11_perform_0 (fun r8 S7 => ((¬ r8 = 0 → ∀ v9 : Int32, v9 = x3 + 1 → K (x1, x2, v9) S7) ∧ (r8 = 0 → Post x3 S7))) x2 x3 S5))) x2 S
def VC_X11_played_0 (Post : Int32 → XS → Prop) (a0 : Int32) (S : XS) : Prop := ∀ K : Hd_X11_played_0 → XS → Prop, (∀ h S, B_X11_played_0 Post K h S → K h S) → VC_X5_textAt_1 (fun r2 S1 => ((r2 = none → Post (-2) S1) ∧ ∀ a3 : Nat, r2 = some a3 → K (a0, a3, 0) S1)) a0 S
set_option maxHeartbeats 4000000 in
set_option maxRecDepth 100000 in
theorem h_X11_played_0_0 {p : Program} {l : Launch} {e : Env} {s : State} {m : MethodId} {below : List Frame} {meth : Method} {c : Code} {dC : Nat → ClassId} {dI : Nat → Nat → Nat} {q : Nat → Nat} {cI cT : ClassId} {en : Nat → Nat} {A : Nat → Prop} {args : Array Value} {Post : Int32 → XS → Prop} {K : Hd_X11_played_0 → XS → Prop} (X : XX p s m args c cX11_played 4 ww_X11_played_0 RX11 dC dI cI cT en A) (hr : meth.sig.returnType = (some .int)) (hlocks : meth.locks = false) (hK0 : ∀ (x1 : Int32) (x2 : Nat) (x3 : Int32) (S : XS), K (x1, x2, x3) S → ∀ (H : Heap) (locs : List Loc), va_P (dC, dI) vwCl (wX q cI cT S) H → va_D A (wX q cI cT S) → va_S A s.heap H locs → ∀ ls : Array Slot, lv_has ls 4 [(0, .ref (q 0)), (1, .int x1), (2, .ref x2), (3, .int x3)] → W p l e (headSpec ww_X11_played_0 ({ frames := 7, cells := 0, slots := 0, locals := 185 } : Room)).room s m args below meth c H locs 0 0 (MQ below (va_Qi Post (atX dC dI q cI cT A) A) args s 0 0 A) (F0 m 18 ls [])) (x1 : Int32) (x2 : Nat) (x3 : Int32) (S : XS) (h : B_X11_played_0 Post K (x1, x2, x3) S) : ∀ (H : Heap) (locs : List Loc), va_P (dC, dI) vwCl (wX q cI cT S) H → va_D A (wX q cI cT S) → va_S A s.heap H locs → ∀ ls : Array Slot, lv_has ls 4 [(0, .ref (q 0)), (1, .int x1), (2, .ref x2), (3, .int x3)] → W p l e (headSpec ww_X11_played_0 ({ frames := 7, cells := 0, slots := 0, locals := 185 } : Room)).room s m args below meth c H locs 0 0 (MQ below (va_Qi Post (atX dC dI q cI cT A) A) args s 0 0 A) (F0 m 18 ls []) := by
  have hx := X.1
  have hb := X.2.1
  intro H locs hP hD hS ls hl
  have lk12 := X.2.2.2.2.1 (.fieldLink RX11 12 "BreathOnLoan" "now" "LBreathOnLoan$State;") (inX 568 rfl)
  dsimp only [B_X11_played_0] at h
  refine lv_iload_n hx hb (dk DX11_played 11 rfl) rfl (lv_at hl 3 rfl) ?_
  refine lv_aload_n hx hb (dk DX11_played 12 rfl) rfl (lv_at hl 2 rfl) ?_
  obtain ⟨t4, ht4, h⟩ := h
  refine cXi (As := []) (rest := [.int x3]) X (m_X9_clauses_x (l := l) (dC := dC) (dI := dI) (q := q) (cI := cI) (cT := cT) (en := en) (sz := _) x2 S h) (cwV 0 X.2.2.2.2.1 (gxV 690 691 692 71 562 rfl rfl rfl rfl rfl) rfl rfl rfl q_X9_clauses_x ⟨Nat.le_of_ble_eq_true rfl, Nat.le_of_ble_eq_true rfl⟩) (rT X hP ht4) hP hD hS rfl hl.1 rfl (Nat.le_of_ble_eq_true rfl) (dk DX11_played 13 rfl) (fun r6 S5 H locs h hP hD hS => ?_)
  refine lv_icmp_ge (tgt := 43) hx hb (dk DX11_played 14 rfl) (by decide) (fun hc => ?_) (fun hc => ?_)
  · have h := h.1 hc
    refine lv_iconst (v := (-1)) hx hb (dk DX11_played 24 rfl) (by decide) ?_
    exact W.iret (v := (-1)) hx hb hr (fun t ht hW => ⟨⟨_, _, rfl, h, by rw [ht]; exact hP, va_K.moved hW.alike X.2.2.2.2.2.2.1, hD⟩, hS.F ht⟩) hS.2.2 (dk DX11_played 25 rfl)
  · have h := h.2 hc
    refine lv_aload_n hx hb (dk DX11_played 15 rfl) rfl (lv_at hl 0 rfl) ?_
    refine lv_aload_n hx hb (dk DX11_played 16 rfl) rfl (lv_at hl 2 rfl) ?_
    refine lv_iload_n hx hb (dk DX11_played 17 rfl) rfl (lv_at hl 3 rfl) ?_
    refine cXi (As := [.ref x2, .int x3]) (rest := []) X (m_X11_perform_0 (l := l) (dC := dC) (dI := dI) (q := q) (cI := cI) (cT := cT) (en := en) (sz := _) x2 x3 S5 h) (cwV 2 X.2.2.2.2.1 (gxV 693 694 695 16 689 rfl rfl rfl rfl rfl) rfl rfl rfl q_X11_perform_0 ⟨Nat.le_of_ble_eq_true rfl, Nat.le_of_ble_eq_true rfl⟩) (rX_0 X hP) hP hD hS rfl hl.1 rfl (Nat.le_of_ble_eq_true rfl) (dk DX11_played 18 rfl) (fun r8 S7 H locs h hP hD hS => ?_)
    refine lv_if_ne (tgt := 37) hx hb (dk DX11_played 19 rfl) (by decide) (fun hc => ?_) (fun hc => ?_)
    · have h := h.1 hc
      obtain ⟨v9, ev9⟩ : ∃ y : Int32, y = x3 + 1 := ⟨_, rfl⟩
      have h := h v9 ev9
      refine lv_iinc (v := v9) (lv' := [(3, .int v9), (0, .ref (q 0)), (1, .int x1), (2, .ref x2)]) hx hb (dk DX11_played 22 rfl) hl (k := 3) rfl (by rw [ev9]; rfl) (by decide) rfl (fun ls hl => ?_)
      refine lv_goto (tgt := 18) hx hb (dk DX11_played 23 rfl) (by decide) ?_
      exact hK0 x1 x2 v9 S7 h _ _ hP hD hS ls (lv_sub hl [1, 2, 3, 0] rfl)
    · have h := h.2 hc
      refine lv_iload_n hx hb (dk DX11_played 20 rfl) rfl (lv_at hl 3 rfl) ?_
      exact W.iret (v := x3) hx hb hr (fun t ht hW => ⟨⟨_, _, rfl, h, by rw [ht]; exact hP, va_K.moved hW.alike X.2.2.2.2.2.2.1, hD⟩, hS.F ht⟩) hS.2.2 (dk DX11_played 21 rfl)
set_option maxHeartbeats 4000000 in
set_option maxRecDepth 100000 in
theorem m_X11_played_0 {l : Launch} {dC : Nat → ClassId} {dI : Nat → Nat → Nat} {q : Nat → Nat} {cI cT : ClassId} {en : Nat → Nat} {sz : Nat} {Post : Int32 → XS → Prop} (a0 : Int32) (S : XS) (h : VC_X11_played_0 Post a0 S) : Met l yX11_played ww_X11_played_0 ({ frames := 7, cells := 0, slots := 0, locals := 185 } : Room) (va_Pc [.ref (q 0), .int a0] (preX dC dI q cI cT en S sz)) (va_Qi Post (atX dC dI q cI cT (va_A (wX q cI cT S) sz)) (va_A (wX q cI cT S) sz)) 0 0 (va_A (wX q cI cT S) sz) := by
  refine oX (cc := cX11_played) (maxL := 4) (ret := (some .int)) (Qc := fun A => va_Qi Post (atX dC dI q cI cT A) A) (own := RX11) (by decide) rfl (fun w h => List.mem_cons_of_mem _ (List.mem_append_right _ h)) rfl (Nat.le_of_ble_eq_true rfl) (fun p e s m below meth c A ls X hr hlocks hP hD hS hl => ?_)
  have hx := X.1
  have hb := X.2.1
  have hl : lv_has ls 4 [(0, .ref (q 0)), (1, .int a0)] := hl
  have lk12 := X.2.2.2.2.1 (.fieldLink RX11 12 "BreathOnLoan" "now" "LBreathOnLoan$State;") (inX 568 rfl)
  generalize hargs : ([.ref (q 0), .int a0] : List Value).toArray = args at X ⊢
  have h := h (fun hd S => match hd with | (x1, x2, x3) => ∀ (H : Heap) (locs : List Loc), va_P (dC, dI) vwCl (wX q cI cT S) H → va_D A (wX q cI cT S) → va_S A s.heap H locs → ∀ ls : Array Slot, lv_has ls 4 [(0, .ref (q 0)), (1, .int x1), (2, .ref x2), (3, .int x3)] → W p l e (headSpec ww_X11_played_0 ({ frames := 7, cells := 0, slots := 0, locals := 185 } : Room)).room s m args below meth c H locs 0 0 (MQ below (va_Qi Post (atX dC dI q cI cT A) A) args s 0 0 A) (F0 m 18 ls [])) ?_
  · skip
    refine lv_aload_n hx hb (dk DX11_played 0 rfl) rfl (lv_at hl 0 rfl) ?_
    refine gX_0 X hP 0 (by decide) rfl lk12 (dk DX11_played 1 rfl) ?_
    refine lv_iload_n hx hb (dk DX11_played 2 rfl) rfl (lv_at hl 1 rfl) ?_
    refine cXq (As := [.int a0]) (rest := []) X (m_X5_textAt_1 (l := l) (dC := dC) (dI := dI) (q := q) (cI := cI) (cT := cT) (en := en) (sz := _) a0 S h) (cwV 1 X.2.2.2.2.1 (gxV 627 65 66 67 57 rfl rfl rfl rfl rfl) rfl rfl rfl q_X5_textAt_1 ⟨Nat.le_of_ble_eq_true rfl, Nat.le_of_ble_eq_true rfl⟩) (rX_1 X hP) hP hD hS rfl hl.1 rfl (Nat.le_of_ble_eq_true rfl) (dk DX11_played 3 rfl) (fun r2 S1 H locs h hP hD hS => ?_)
    rcases r2 with _ | a3
    · have h := h.1 rfl
      refine lv_astore_nN (lv' := [(2, .null), (0, .ref (q 0)), (1, .int a0)]) hx hb (dk DX11_played 4 rfl) rfl hl (by decide) rfl (fun ls hl => ?_)
      refine lv_aload_nN hx hb (dk DX11_played 5 rfl) rfl (lv_at hl 0 rfl) ?_
      refine lv_ifnonnullN hx hb (dk DX11_played 6 rfl) ?_
      refine lv_bipush (v := (-2)) hx hb (dk DX11_played 7 rfl) (by decide) ?_
      exact W.iret (v := (-2)) hx hb hr (fun t ht hW => ⟨⟨_, _, rfl, h, by rw [ht]; exact hP, va_K.moved hW.alike X.2.2.2.2.2.2.1, hD⟩, hS.F ht⟩) hS.2.2 (dk DX11_played 8 rfl)
    · have h := h.2 a3 rfl
      refine lv_astore_n (lv' := [(2, .ref a3), (0, .ref (q 0)), (1, .int a0)]) hx hb (dk DX11_played 4 rfl) rfl hl (by decide) rfl (fun ls hl => ?_)
      refine lv_aload_n hx hb (dk DX11_played 5 rfl) rfl (lv_at hl 0 rfl) ?_
      refine lv_ifnonnull (tgt := 16) hx hb (dk DX11_played 6 rfl) (by decide) ?_
      refine lv_iconst (v := 0) hx hb (dk DX11_played 9 rfl) (by decide) ?_
      refine lv_istore_n (lv' := [(3, .int 0), (2, .ref a3), (0, .ref (q 0)), (1, .int a0)]) hx hb (dk DX11_played 10 rfl) rfl hl (by decide) rfl (fun ls hl => ?_)
      exact h _ _ hP hD hS ls (lv_sub hl [2, 3, 1, 0] rfl)
  · rintro ⟨x1, x2, x3⟩ S hB
    exact h_X11_played_0_0 X hr hlocks (hK0 := fun _ _ _ _ h => h) x1 x2 x3 S hB

def ww_X11_odds_0 : List Cond := .code yX11_odds cX11_odds 9 (some .long) :: (WdX ++ WsX)
theorem q_X11_odds_0 : yX11_odds.cls = RX11 ∧ yX11_odds.cls ≠ "java/lang/invoke/MethodHandle" ∧ yX11_odds.cls ≠ "java/lang/invoke/VarHandle" ∧ (parseMethodDescriptor yX11_odds.desc).map (fun d => d.parameters.length) = some 2 := by decide +kernel
abbrev Hd_X11_odds_0 : Type := (Int32 × Int32 × Int64 × Int64 × Int32) ⊕ (Int32 × Int32 × Int64 × Int64 × Int64 × Int64)
def B_X11_odds_0 (Post : Int64 → XS → Prop) (K : Hd_X11_odds_0 → XS → Prop) : Hd_X11_odds_0 → XS → Prop
  | (.inl (x1, x2, x3, x5, x7)), S => (((S.1 353) ≤ x7 → VC_X11_commonDivisor (fun r2 => ((¬ x2 = 0 → K (.inr (x1, x2, x3, x5, r2, x5)) S) ∧ (x2 = 0 → K (.inr (x1, x2, x3, x5, r2, x3)) S))) x3 x5) ∧ (¬ (S.1 353) ≤ x7 → ((((x1 >>> (x7 &&& 31)) &&& 1) = 0 → ∀ v3 : Int32, v3 = x7 + 1 → K (.inl (x1, x2, x3, x5, v3)) S) ∧ (¬ ((x1 >>> (x7 &&& 31)) &&& 1) = 0 → VC_X5_stateOf_1 (fun r5 S4 => ((r5 = 1 → VC_X2_brittleOf_48_1 (fun r7 S6 => ∀ v8 : Int64, v8 = x3 * ((10 - r7).toInt64) → ∀ v9 : Int64, v9 = x5 * (10) → ∀ v10 : Int32, v10 = x7 + 1 → K (.inl (x1, x2, v8, v9, v10)) S6) x7 S4) ∧ (¬ r5 = 1 → Post (-1) S4))) x7 S))))
  | (.inr (x1, x2, x3, x5, x7, t0)), S => ¬ (if x7 < 1 then 1 else x7) = 0 ∧ Post (t0 / (if x7 < 1 then 1 else x7)) S
def VC_X11_odds_0 (Post : Int64 → XS → Prop) (a0 : Int32) (a1 : Int32) (S : XS) : Prop := ∀ K : Hd_X11_odds_0 → XS → Prop, (∀ h S, B_X11_odds_0 Post K h S → K h S) → VC_X11_within (fun r1 => ((r1 = 0 → Post (-1) S) ∧ (¬ r1 = 0 → ((a0 < 0 → Post (-1) S) ∧ (¬ a0 < 0 → ((a0 < ((1 : Int32) <<< ((S.1 353) &&& 31)) → K (.inl (a0, a1, 1, 1, 0)) S) ∧ (¬ a0 < ((1 : Int32) <<< ((S.1 353) &&& 31)) → Post (-1) S))))))) a1 0 1
set_option maxHeartbeats 4000000 in
set_option maxRecDepth 100000 in
theorem h_X11_odds_0_0 {p : Program} {l : Launch} {e : Env} {s : State} {m : MethodId} {below : List Frame} {meth : Method} {c : Code} {dC : Nat → ClassId} {dI : Nat → Nat → Nat} {q : Nat → Nat} {cI cT : ClassId} {en : Nat → Nat} {A : Nat → Prop} {args : Array Value} {Post : Int64 → XS → Prop} {K : Hd_X11_odds_0 → XS → Prop} (X : XX p s m args c cX11_odds 9 ww_X11_odds_0 RX11 dC dI cI cT en A) (hr : meth.sig.returnType = (some .long)) (hlocks : meth.locks = false) (hK0 : ∀ (x1 : Int32) (x2 : Int32) (x3 : Int64) (x5 : Int64) (x7 : Int32) (S : XS), K (.inl (x1, x2, x3, x5, x7)) S → ∀ (H : Heap) (locs : List Loc), va_P (dC, dI) vwCl (wX q cI cT S) H → va_D A (wX q cI cT S) → va_S A s.heap H locs → ∀ ls : Array Slot, lv_has ls 9 [(0, .ref (q 0)), (1, .int x1), (2, .int x2), (3, .long x3), (5, .long x5), (7, .int x7)] → W p l e (headSpec ww_X11_odds_0 ({ frames := 5, cells := 0, slots := 0, locals := 137 } : Room)).room s m args below meth c H locs 0 0 (MQ below (va_Ql Post (atX dC dI q cI cT A) A) args s 0 0 A) (F0 m 41 ls [])) (hK1 : ∀ (x1 : Int32) (x2 : Int32) (x3 : Int64) (x5 : Int64) (x7 : Int64) (t0 : Int64) (S : XS), K (.inr (x1, x2, x3, x5, x7, t0)) S → ∀ (H : Heap) (locs : List Loc), va_P (dC, dI) vwCl (wX q cI cT S) H → va_D A (wX q cI cT S) → va_S A s.heap H locs → ∀ ls : Array Slot, lv_has ls 9 [(0, .ref (q 0)), (1, .int x1), (2, .int x2), (3, .long x3), (5, .long x5), (7, .long x7)] → W p l e (headSpec ww_X11_odds_0 ({ frames := 5, cells := 0, slots := 0, locals := 137 } : Room)).room s m args below meth c H locs 0 0 (MQ below (va_Ql Post (atX dC dI q cI cT A) A) args s 0 0 A) (F0 m 134 ls [.long t0])) (x1 : Int32) (x2 : Int32) (x3 : Int64) (x5 : Int64) (x7 : Int32) (S : XS) (h : B_X11_odds_0 Post K (.inl (x1, x2, x3, x5, x7)) S) : ∀ (H : Heap) (locs : List Loc), va_P (dC, dI) vwCl (wX q cI cT S) H → va_D A (wX q cI cT S) → va_S A s.heap H locs → ∀ ls : Array Slot, lv_has ls 9 [(0, .ref (q 0)), (1, .int x1), (2, .int x2), (3, .long x3), (5, .long x5), (7, .int x7)] → W p l e (headSpec ww_X11_odds_0 ({ frames := 5, cells := 0, slots := 0, locals := 137 } : Room)).room s m args below meth c H locs 0 0 (MQ below (va_Ql Post (atX dC dI q cI cT A) A) args s 0 0 A) (F0 m 41 ls []) := by
  have hx := X.1
  have hb := X.2.1
  intro H locs hP hD hS ls hl
  have lk12 := X.2.2.2.2.1 (.fieldLink RX11 12 "BreathOnLoan" "now" "LBreathOnLoan$State;") (inX 568 rfl)
  have lk141 := X.2.2.2.2.1 (.fieldLink RX11 141 "BreathOnLoan$State" "bench" "LBreathOnLoan$Bench;") (inX 632 rfl)
  have lk210 := X.2.2.2.2.1 (.fieldLink RX11 210 "BreathOnLoan$Bench" "pieces" "I") (inX 633 rfl)
  have lk38 := X.2.2.2.2.1 (.fieldLink RX11 38 "BreathOnLoan" "judge" "LBreathOnLoan$Judge;") (inX 579 rfl)
  dsimp only [B_X11_odds_0] at h
  refine lv_iload hx hb (dk DX11_odds 23 rfl) (lv_at hl 5 rfl) ?_
  refine lv_aload_n hx hb (dk DX11_odds 24 rfl) rfl (lv_at hl 0 rfl) ?_
  refine gX_0 X hP 0 (by decide) rfl lk12 (dk DX11_odds 25 rfl) ?_
  refine gX_1 X hP 2 (by decide) rfl lk141 (dk DX11_odds 26 rfl) ?_
  refine gX_11 X hP 1 (by decide) rfl lk210 (dk DX11_odds 27 rfl) ?_
  refine lv_icmp_ge (tgt := 116) hx hb (dk DX11_odds 28 rfl) (by decide) (fun hc => ?_) (fun hc => ?_)
  · have h := h.1 hc
    refine lv_lload_n hx hb (dk DX11_odds 61 rfl) rfl (lv_at hl 3 rfl) ?_
    refine lv_lload hx hb (dk DX11_odds 62 rfl) (lv_at hl 4 rfl) ?_
    refine cSl (As := [.long x3, .long x5]) (rest := []) ⟨X.1, X.2.1, X.2.2.1, X.2.2.2.1, X.2.2.2.2.1⟩ (m_X11_commonDivisor (l := l) x3 x5 h) (va_cwS 2 X.2.2.2.2.1 (gxS 719 720 16 713 rfl rfl rfl rfl) rfl rfl rfl q_X11_commonDivisor ⟨Nat.le_of_ble_eq_true rfl, Nat.le_of_ble_eq_true rfl⟩) rfl hl.1 rfl (Nat.le_of_ble_eq_true rfl) (dk DX11_odds 63 rfl) (fun r2 h => ?_)
    refine lv_lstore (lv' := [(7, .long r2), (0, .ref (q 0)), (1, .int x1), (2, .int x2), (3, .long x3), (5, .long x5)]) hx hb (dk DX11_odds 64 rfl) hl (by decide) rfl (fun ls hl => ?_)
    refine lv_iload_n hx hb (dk DX11_odds 65 rfl) rfl (lv_at hl 3 rfl) ?_
    refine lv_if_ne (tgt := 132) hx hb (dk DX11_odds 66 rfl) (by decide) (fun hc => ?_) (fun hc => ?_)
    · have h := h.1 hc
      refine lv_lload hx hb (dk DX11_odds 69 rfl) (lv_at hl 5 rfl) ?_
      exact hK1 x1 x2 x3 x5 r2 x5 S h _ _ hP hD hS ls (lv_sub hl [1, 2, 3, 4, 5, 0] rfl)
    · have h := h.2 hc
      refine lv_lload_n hx hb (dk DX11_odds 67 rfl) rfl (lv_at hl 4 rfl) ?_
      refine lv_goto (tgt := 134) hx hb (dk DX11_odds 68 rfl) (by decide) ?_
      exact hK1 x1 x2 x3 x5 r2 x3 S h _ _ hP hD hS ls (lv_sub hl [1, 2, 3, 4, 5, 0] rfl)
  · have h := h.2 hc
    refine lv_iload_n hx hb (dk DX11_odds 29 rfl) rfl (lv_at hl 1 rfl) ?_
    refine lv_iload hx hb (dk DX11_odds 30 rfl) (lv_at hl 5 rfl) ?_
    refine lv_ishr hx hb (dk DX11_odds 31 rfl) ?_
    refine lv_iconst (v := 1) hx hb (dk DX11_odds 32 rfl) (by decide) ?_
    refine lv_iand hx hb (dk DX11_odds 33 rfl) ?_
    refine lv_if_eq (tgt := 110) hx hb (dk DX11_odds 34 rfl) (by decide) (fun hc => ?_) (fun hc => ?_)
    · have h := h.1 hc
      obtain ⟨v3, ev3⟩ : ∃ y : Int32, y = x7 + 1 := ⟨_, rfl⟩
      have h := h v3 ev3
      refine lv_iinc (v := v3) (lv' := [(7, .int v3), (0, .ref (q 0)), (1, .int x1), (2, .int x2), (3, .long x3), (5, .long x5)]) hx hb (dk DX11_odds 59 rfl) hl (k := 5) rfl (by rw [ev3]; rfl) (by decide) rfl (fun ls hl => ?_)
      refine lv_goto (tgt := 41) hx hb (dk DX11_odds 60 rfl) (by decide) ?_
      exact hK0 x1 x2 x3 x5 v3 S h _ _ hP hD hS ls (lv_sub hl [1, 2, 3, 4, 5, 0] rfl)
    · have h := h.2 hc
      refine lv_aload_n hx hb (dk DX11_odds 35 rfl) rfl (lv_at hl 0 rfl) ?_
      refine gX_0 X hP 0 (by decide) rfl lk12 (dk DX11_odds 36 rfl) ?_
      refine lv_iload hx hb (dk DX11_odds 37 rfl) (lv_at hl 5 rfl) ?_
      refine cXi (As := [.int x7]) (rest := []) X (m_X5_stateOf_1 (l := l) (dC := dC) (dI := dI) (q := q) (cI := cI) (cT := cT) (en := en) (sz := _) x7 S h) (cwV 1 X.2.2.2.2.1 (gxV 652 653 654 67 520 rfl rfl rfl rfl rfl) rfl rfl rfl q_X5_stateOf_1 ⟨Nat.le_of_ble_eq_true rfl, Nat.le_of_ble_eq_true rfl⟩) (rX_1 X hP) hP hD hS rfl hl.1 rfl (Nat.le_of_ble_eq_true rfl) (dk DX11_odds 38 rfl) (fun r5 S4 H locs h hP hD hS => ?_)
      refine lv_iconst (v := 1) hx hb (dk DX11_odds 39 rfl) (by decide) ?_
      refine lv_icmp_eq (tgt := 82) hx hb (dk DX11_odds 40 rfl) (by decide) (fun hc => ?_) (fun hc => ?_)
      · have h := h.1 hc
        refine lv_lload_n hx hb (dk DX11_odds 43 rfl) rfl (lv_at hl 3 rfl) ?_
        refine lv_bipush (v := 10) hx hb (dk DX11_odds 44 rfl) (by decide) ?_
        refine lv_aload_n hx hb (dk DX11_odds 45 rfl) rfl (lv_at hl 0 rfl) ?_
        refine gX_0 X hP 4 (by decide) rfl lk38 (dk DX11_odds 46 rfl) ?_
        refine lv_aload_n hx hb (dk DX11_odds 47 rfl) rfl (lv_at hl 0 rfl) ?_
        refine gX_0 X hP 0 (by decide) rfl lk12 (dk DX11_odds 48 rfl) ?_
        refine lv_iload hx hb (dk DX11_odds 49 rfl) (lv_at hl 5 rfl) ?_
        refine cXi (As := [.ref (q 1), .int x7]) (rest := [.int 10, .long x3]) X (m_X2_brittleOf_48_1 (l := l) (dC := dC) (dI := dI) (q := q) (cI := cI) (cT := cT) (en := en) (sz := _) x7 S4 h) (cwV 2 X.2.2.2.2.1 (gxV 716 717 718 95 162 rfl rfl rfl rfl rfl) rfl rfl rfl q_X2_brittleOf_48_1 ⟨Nat.le_of_ble_eq_true rfl, Nat.le_of_ble_eq_true rfl⟩) (rX_48 X hP) hP hD hS rfl hl.1 rfl (Nat.le_of_ble_eq_true rfl) (dk DX11_odds 50 rfl) (fun r7 S6 H locs h hP hD hS => ?_)
        refine lv_isub hx hb (dk DX11_odds 51 rfl) ?_
        refine lv_i2l hx hb (dk DX11_odds 52 rfl) rfl ?_
        refine lv_lmul hx hb (dk DX11_odds 53 rfl) ?_
        refine lv_topl (fun v8 ev8 => ?_)
        have h := h v8 ev8
        refine lv_lstore_n (lv' := [(3, .long v8), (0, .ref (q 0)), (1, .int x1), (2, .int x2), (5, .long x5), (7, .int x7)]) hx hb (dk DX11_odds 54 rfl) rfl hl (by decide) rfl (fun ls hl => ?_)
        refine lv_lload hx hb (dk DX11_odds 55 rfl) (lv_at hl 4 rfl) ?_
        refine lv_ldc2 (v := (10)) hx hb X.2.2.2.1 (X.2.2.2.2.1 (.constantLong RX11 218 (10)) (inX 715 rfl)) (dk DX11_odds 56 rfl) ?_
        refine lv_lmul hx hb (dk DX11_odds 57 rfl) ?_
        refine lv_topl (fun v9 ev9 => ?_)
        have h := h v9 ev9
        refine lv_lstore (lv' := [(5, .long v9), (3, .long v8), (0, .ref (q 0)), (1, .int x1), (2, .int x2), (7, .int x7)]) hx hb (dk DX11_odds 58 rfl) hl (by decide) rfl (fun ls hl => ?_)
        obtain ⟨v10, ev10⟩ : ∃ y : Int32, y = x7 + 1 := ⟨_, rfl⟩
        have h := h v10 ev10
        refine lv_iinc (v := v10) (lv' := [(7, .int v10), (5, .long v9), (3, .long v8), (0, .ref (q 0)), (1, .int x1), (2, .int x2)]) hx hb (dk DX11_odds 59 rfl) hl (k := 5) rfl (by rw [ev10]; rfl) (by decide) rfl (fun ls hl => ?_)
        refine lv_goto (tgt := 41) hx hb (dk DX11_odds 60 rfl) (by decide) ?_
        exact hK0 x1 x2 v8 v9 v10 S6 h _ _ hP hD hS ls (lv_sub hl [3, 4, 5, 2, 1, 0] rfl)
      · have h := h.2 hc
        refine lv_ldc2 (v := (-1)) hx hb X.2.2.2.1 (X.2.2.2.2.1 (.constantLong RX11 213 (-1)) (inX 714 rfl)) (dk DX11_odds 41 rfl) ?_
        exact W.lret (v := (-1)) hx hb hr (fun t ht hW => ⟨⟨_, _, rfl, h, by rw [ht]; exact hP, va_K.moved hW.alike X.2.2.2.2.2.2.1, hD⟩, hS.F ht⟩) hS.2.2 (dk DX11_odds 42 rfl)
set_option maxHeartbeats 4000000 in
set_option maxRecDepth 100000 in
theorem h_X11_odds_0_1 {p : Program} {l : Launch} {e : Env} {s : State} {m : MethodId} {below : List Frame} {meth : Method} {c : Code} {dC : Nat → ClassId} {dI : Nat → Nat → Nat} {q : Nat → Nat} {cI cT : ClassId} {en : Nat → Nat} {A : Nat → Prop} {args : Array Value} {Post : Int64 → XS → Prop} {K : Hd_X11_odds_0 → XS → Prop} (X : XX p s m args c cX11_odds 9 ww_X11_odds_0 RX11 dC dI cI cT en A) (hr : meth.sig.returnType = (some .long)) (hlocks : meth.locks = false) (hK0 : ∀ (x1 : Int32) (x2 : Int32) (x3 : Int64) (x5 : Int64) (x7 : Int32) (S : XS), K (.inl (x1, x2, x3, x5, x7)) S → ∀ (H : Heap) (locs : List Loc), va_P (dC, dI) vwCl (wX q cI cT S) H → va_D A (wX q cI cT S) → va_S A s.heap H locs → ∀ ls : Array Slot, lv_has ls 9 [(0, .ref (q 0)), (1, .int x1), (2, .int x2), (3, .long x3), (5, .long x5), (7, .int x7)] → W p l e (headSpec ww_X11_odds_0 ({ frames := 5, cells := 0, slots := 0, locals := 137 } : Room)).room s m args below meth c H locs 0 0 (MQ below (va_Ql Post (atX dC dI q cI cT A) A) args s 0 0 A) (F0 m 41 ls [])) (hK1 : ∀ (x1 : Int32) (x2 : Int32) (x3 : Int64) (x5 : Int64) (x7 : Int64) (t0 : Int64) (S : XS), K (.inr (x1, x2, x3, x5, x7, t0)) S → ∀ (H : Heap) (locs : List Loc), va_P (dC, dI) vwCl (wX q cI cT S) H → va_D A (wX q cI cT S) → va_S A s.heap H locs → ∀ ls : Array Slot, lv_has ls 9 [(0, .ref (q 0)), (1, .int x1), (2, .int x2), (3, .long x3), (5, .long x5), (7, .long x7)] → W p l e (headSpec ww_X11_odds_0 ({ frames := 5, cells := 0, slots := 0, locals := 137 } : Room)).room s m args below meth c H locs 0 0 (MQ below (va_Ql Post (atX dC dI q cI cT A) A) args s 0 0 A) (F0 m 134 ls [.long t0])) (x1 : Int32) (x2 : Int32) (x3 : Int64) (x5 : Int64) (x7 : Int64) (t0 : Int64) (S : XS) (h : B_X11_odds_0 Post K (.inr (x1, x2, x3, x5, x7, t0)) S) : ∀ (H : Heap) (locs : List Loc), va_P (dC, dI) vwCl (wX q cI cT S) H → va_D A (wX q cI cT S) → va_S A s.heap H locs → ∀ ls : Array Slot, lv_has ls 9 [(0, .ref (q 0)), (1, .int x1), (2, .int x2), (3, .long x3), (5, .long x5), (7, .long x7)] → W p l e (headSpec ww_X11_odds_0 ({ frames := 5, cells := 0, slots := 0, locals := 137 } : Room)).room s m args below meth c H locs 0 0 (MQ below (va_Ql Post (atX dC dI q cI cT A) A) args s 0 0 A) (F0 m 134 ls [.long t0]) := by
  have hx := X.1
  have hb := X.2.1
  intro H locs hP hD hS ls hl
  have lk12 := X.2.2.2.2.1 (.fieldLink RX11 12 "BreathOnLoan" "now" "LBreathOnLoan$State;") (inX 568 rfl)
  have lk141 := X.2.2.2.2.1 (.fieldLink RX11 141 "BreathOnLoan$State" "bench" "LBreathOnLoan$Bench;") (inX 632 rfl)
  have lk210 := X.2.2.2.2.1 (.fieldLink RX11 210 "BreathOnLoan$Bench" "pieces" "I") (inX 633 rfl)
  have lk38 := X.2.2.2.2.1 (.fieldLink RX11 38 "BreathOnLoan" "judge" "LBreathOnLoan$Judge;") (inX 579 rfl)
  dsimp only [B_X11_odds_0] at h
  refine lv_lconst (v := 1) hx hb (dk DX11_odds 70 rfl) (by decide) ?_
  refine lv_lload hx hb (dk DX11_odds 71 rfl) (lv_at hl 5 rfl) ?_
  refine va_mmax_long hx hb (X.2.2.1.trans hl.1.symm) X.2.2.2.1 (X.2.2.2.2.1 (.methodLink RX11 224 Lib.MathLoose.max_long.x) (inX 87 rfl)) (X.2.2.2.2.1 (.static Lib.MathLoose.max_long.x) (inX 88 rfl)) (X.2.2.2.2.1 (.initialized "java/lang/Math") (inX 21 rfl)) (X.2.2.2.2.1 (.code Lib.MathLoose.max_long.x Lib.MathLoose.max_long.code 4 (some .long)) (inX 89 rfl)) (Nat.le_of_ble_eq_true rfl) (Nat.le_of_ble_eq_true rfl) (Nat.zero_le _) (Nat.zero_le _) (dk DX11_odds 72 rfl) ?_
  obtain ⟨hz, h⟩ := h
  refine lv_ldiv hx hb (dk DX11_odds 73 rfl) hz ?_
  exact W.lret (v := t0 / (if x7 < 1 then 1 else x7)) hx hb hr (fun t ht hW => ⟨⟨_, _, rfl, h, by rw [ht]; exact hP, va_K.moved hW.alike X.2.2.2.2.2.2.1, hD⟩, hS.F ht⟩) hS.2.2 (dk DX11_odds 74 rfl)
set_option maxHeartbeats 4000000 in
set_option maxRecDepth 100000 in
theorem m_X11_odds_0 {l : Launch} {dC : Nat → ClassId} {dI : Nat → Nat → Nat} {q : Nat → Nat} {cI cT : ClassId} {en : Nat → Nat} {sz : Nat} {Post : Int64 → XS → Prop} (a0 : Int32) (a1 : Int32) (S : XS) (h : VC_X11_odds_0 Post a0 a1 S) : Met l yX11_odds ww_X11_odds_0 ({ frames := 5, cells := 0, slots := 0, locals := 137 } : Room) (va_Pc [.ref (q 0), .int a0, .int a1] (preX dC dI q cI cT en S sz)) (va_Ql Post (atX dC dI q cI cT (va_A (wX q cI cT S) sz)) (va_A (wX q cI cT S) sz)) 0 0 (va_A (wX q cI cT S) sz) := by
  refine oX (cc := cX11_odds) (maxL := 9) (ret := (some .long)) (Qc := fun A => va_Ql Post (atX dC dI q cI cT A) A) (own := RX11) (by decide) rfl (fun w h => List.mem_cons_of_mem _ (List.mem_append_right _ h)) rfl (Nat.le_of_ble_eq_true rfl) (fun p e s m below meth c A ls X hr hlocks hP hD hS hl => ?_)
  have hx := X.1
  have hb := X.2.1
  have hl : lv_has ls 9 [(0, .ref (q 0)), (1, .int a0), (2, .int a1)] := hl
  have lk12 := X.2.2.2.2.1 (.fieldLink RX11 12 "BreathOnLoan" "now" "LBreathOnLoan$State;") (inX 568 rfl)
  have lk141 := X.2.2.2.2.1 (.fieldLink RX11 141 "BreathOnLoan$State" "bench" "LBreathOnLoan$Bench;") (inX 632 rfl)
  have lk210 := X.2.2.2.2.1 (.fieldLink RX11 210 "BreathOnLoan$Bench" "pieces" "I") (inX 633 rfl)
  have lk38 := X.2.2.2.2.1 (.fieldLink RX11 38 "BreathOnLoan" "judge" "LBreathOnLoan$Judge;") (inX 579 rfl)
  generalize hargs : ([.ref (q 0), .int a0, .int a1] : List Value).toArray = args at X ⊢
  have h := h (fun hd S => match hd with | (.inl (x1, x2, x3, x5, x7)) => ∀ (H : Heap) (locs : List Loc), va_P (dC, dI) vwCl (wX q cI cT S) H → va_D A (wX q cI cT S) → va_S A s.heap H locs → ∀ ls : Array Slot, lv_has ls 9 [(0, .ref (q 0)), (1, .int x1), (2, .int x2), (3, .long x3), (5, .long x5), (7, .int x7)] → W p l e (headSpec ww_X11_odds_0 ({ frames := 5, cells := 0, slots := 0, locals := 137 } : Room)).room s m args below meth c H locs 0 0 (MQ below (va_Ql Post (atX dC dI q cI cT A) A) args s 0 0 A) (F0 m 41 ls []) | (.inr (x1, x2, x3, x5, x7, t0)) => ∀ (H : Heap) (locs : List Loc), va_P (dC, dI) vwCl (wX q cI cT S) H → va_D A (wX q cI cT S) → va_S A s.heap H locs → ∀ ls : Array Slot, lv_has ls 9 [(0, .ref (q 0)), (1, .int x1), (2, .int x2), (3, .long x3), (5, .long x5), (7, .long x7)] → W p l e (headSpec ww_X11_odds_0 ({ frames := 5, cells := 0, slots := 0, locals := 137 } : Room)).room s m args below meth c H locs 0 0 (MQ below (va_Ql Post (atX dC dI q cI cT A) A) args s 0 0 A) (F0 m 134 ls [.long t0])) ?_
  · skip
    refine lv_iload_n hx hb (dk DX11_odds 0 rfl) rfl (lv_at hl 2 rfl) ?_
    refine lv_iconst (v := 0) hx hb (dk DX11_odds 1 rfl) (by decide) ?_
    refine lv_iconst (v := 1) hx hb (dk DX11_odds 2 rfl) (by decide) ?_
    refine cSi (As := [.int a1, .int 0, .int 1]) (rest := []) ⟨X.1, X.2.1, X.2.2.1, X.2.2.2.1, X.2.2.2.2.1⟩ (m_X11_within (l := l) a1 0 1 h) (va_cwS 3 X.2.2.2.2.1 (gxS 593 327 16 324 rfl rfl rfl rfl) rfl rfl rfl q_X11_within ⟨Nat.le_of_ble_eq_true rfl, Nat.le_of_ble_eq_true rfl⟩) rfl hl.1 rfl (Nat.le_of_ble_eq_true rfl) (dk DX11_odds 3 rfl) (fun r1 h => ?_)
    refine lv_if_eq (tgt := 29) hx hb (dk DX11_odds 4 rfl) (by decide) (fun hc => ?_) (fun hc => ?_)
    · have h := h.1 hc
      refine lv_ldc2 (v := (-1)) hx hb X.2.2.2.1 (X.2.2.2.2.1 (.constantLong RX11 213 (-1)) (inX 714 rfl)) (dk DX11_odds 15 rfl) ?_
      exact W.lret (v := (-1)) hx hb hr (fun t ht hW => ⟨⟨_, _, rfl, h, by rw [ht]; exact hP, va_K.moved hW.alike X.2.2.2.2.2.2.1, hD⟩, hS.F ht⟩) hS.2.2 (dk DX11_odds 16 rfl)
    · have h := h.2 hc
      refine lv_iload_n hx hb (dk DX11_odds 5 rfl) rfl (lv_at hl 1 rfl) ?_
      refine lv_if_lt (tgt := 29) hx hb (dk DX11_odds 6 rfl) (by decide) (fun hc => ?_) (fun hc => ?_)
      · have h := h.1 hc
        refine lv_ldc2 (v := (-1)) hx hb X.2.2.2.1 (X.2.2.2.2.1 (.constantLong RX11 213 (-1)) (inX 714 rfl)) (dk DX11_odds 15 rfl) ?_
        exact W.lret (v := (-1)) hx hb hr (fun t ht hW => ⟨⟨_, _, rfl, h, by rw [ht]; exact hP, va_K.moved hW.alike X.2.2.2.2.2.2.1, hD⟩, hS.F ht⟩) hS.2.2 (dk DX11_odds 16 rfl)
      · have h := h.2 hc
        refine lv_iload_n hx hb (dk DX11_odds 7 rfl) rfl (lv_at hl 1 rfl) ?_
        refine lv_iconst (v := 1) hx hb (dk DX11_odds 8 rfl) (by decide) ?_
        refine lv_aload_n hx hb (dk DX11_odds 9 rfl) rfl (lv_at hl 0 rfl) ?_
        refine gX_0 X hP 0 (by decide) rfl lk12 (dk DX11_odds 10 rfl) ?_
        refine gX_1 X hP 2 (by decide) rfl lk141 (dk DX11_odds 11 rfl) ?_
        refine gX_11 X hP 1 (by decide) rfl lk210 (dk DX11_odds 12 rfl) ?_
        refine lv_ishl hx hb (dk DX11_odds 13 rfl) ?_
        refine lv_icmp_lt (tgt := 33) hx hb (dk DX11_odds 14 rfl) (by decide) (fun hc => ?_) (fun hc => ?_)
        · have h := h.1 hc
          refine lv_lconst (v := 1) hx hb (dk DX11_odds 17 rfl) (by decide) ?_
          refine lv_lstore_n (lv' := [(3, .long 1), (0, .ref (q 0)), (1, .int a0), (2, .int a1)]) hx hb (dk DX11_odds 18 rfl) rfl hl (by decide) rfl (fun ls hl => ?_)
          refine lv_lconst (v := 1) hx hb (dk DX11_odds 19 rfl) (by decide) ?_
          refine lv_lstore (lv' := [(5, .long 1), (3, .long 1), (0, .ref (q 0)), (1, .int a0), (2, .int a1)]) hx hb (dk DX11_odds 20 rfl) hl (by decide) rfl (fun ls hl => ?_)
          refine lv_iconst (v := 0) hx hb (dk DX11_odds 21 rfl) (by decide) ?_
          refine lv_istore (lv' := [(7, .int 0), (5, .long 1), (3, .long 1), (0, .ref (q 0)), (1, .int a0), (2, .int a1)]) hx hb (dk DX11_odds 22 rfl) hl (by decide) rfl (fun ls hl => ?_)
          exact h _ _ hP hD hS ls (lv_sub hl [3, 4, 5, 2, 1, 0] rfl)
        · have h := h.2 hc
          refine lv_ldc2 (v := (-1)) hx hb X.2.2.2.1 (X.2.2.2.2.1 (.constantLong RX11 213 (-1)) (inX 714 rfl)) (dk DX11_odds 15 rfl) ?_
          exact W.lret (v := (-1)) hx hb hr (fun t ht hW => ⟨⟨_, _, rfl, h, by rw [ht]; exact hP, va_K.moved hW.alike X.2.2.2.2.2.2.1, hD⟩, hS.F ht⟩) hS.2.2 (dk DX11_odds 16 rfl)
  · rintro (⟨x1, x2, x3, x5, x7⟩ | ⟨x1, x2, x3, x5, x7, t0⟩) S hB
    · exact h_X11_odds_0_0 X hr hlocks (hK0 := fun _ _ _ _ _ _ h => h) (hK1 := fun _ _ _ _ _ _ _ h => h) x1 x2 x3 x5 x7 S hB
    · exact h_X11_odds_0_1 X hr hlocks (hK0 := fun _ _ _ _ _ _ h => h) (hK1 := fun _ _ _ _ _ _ _ h => h) x1 x2 x3 x5 x7 t0 S hB

def ww_X11_plan_0 : List Cond := .code yX11_plan cX11_plan 4 (some .int) :: (WdX ++ WsX)
theorem q_X11_plan_0 : yX11_plan.cls = RX11 ∧ yX11_plan.cls ≠ "java/lang/invoke/MethodHandle" ∧ yX11_plan.cls ≠ "java/lang/invoke/VarHandle" ∧ (parseMethodDescriptor yX11_plan.desc).map (fun d => d.parameters.length) = some 3 := by decide +kernel
def VC_X11_plan_0 (Post : Int32 → XS → Prop) (a0 : Int32) (a1 : Int32) (a2 : Int32) (S : XS) : Prop := ((a0 < 0 → Post (-1000000) S) ∧ (¬ a0 < 0 → ((((1 : Int32) <<< ((S.1 224) &&& 31)) ≤ a0 → Post (-1000000) S) ∧ (¬ ((1 : Int32) <<< ((S.1 224) &&& 31)) ≤ a0 → VC_J6_bitCount_0f7a4 (fun r1 => ((4 < r1 → Post (-1000000) S) ∧ (¬ 4 < r1 → VC_X11_within (fun r2 => ((¬ r2 = 0 → VC_X4_lookAhead_51_1_48 (fun S3 => VC_X4_choose_51_1 (fun S4 => VC_X4_answer_51 (fun r6 S5 => Post r6 S5) a2 S4) a0 S3) a1 S) ∧ (r2 = 0 → Post (-1000000) S))) a1 1 24))) a0))))
set_option maxHeartbeats 4000000 in
set_option maxRecDepth 100000 in
theorem m_X11_plan_0 {l : Launch} {dC : Nat → ClassId} {dI : Nat → Nat → Nat} {q : Nat → Nat} {cI cT : ClassId} {en : Nat → Nat} {sz : Nat} {Post : Int32 → XS → Prop} (a0 : Int32) (a1 : Int32) (a2 : Int32) (S : XS) (h : VC_X11_plan_0 Post a0 a1 a2 S) : Met l yX11_plan ww_X11_plan_0 ({ frames := 6, cells := 0, slots := 0, locals := 162 } : Room) (va_Pc [.ref (q 0), .int a0, .int a1, .int a2] (preX dC dI q cI cT en S sz)) (va_Qi Post (atX dC dI q cI cT (va_A (wX q cI cT S) sz)) (va_A (wX q cI cT S) sz)) 0 0 (va_A (wX q cI cT S) sz) := by
  refine oX (cc := cX11_plan) (maxL := 4) (ret := (some .int)) (Qc := fun A => va_Qi Post (atX dC dI q cI cT A) A) (own := RX11) (by decide) rfl (fun w h => List.mem_cons_of_mem _ (List.mem_append_right _ h)) rfl (Nat.le_of_ble_eq_true rfl) (fun p e s m below meth c A ls X hr hlocks hP hD hS hl => ?_)
  have hx := X.1
  have hb := X.2.1
  have hl : lv_has ls 4 [(0, .ref (q 0)), (1, .int a0), (2, .int a1), (3, .int a2)] := hl
  have lk12 := X.2.2.2.2.1 (.fieldLink RX11 12 "BreathOnLoan" "now" "LBreathOnLoan$State;") (inX 568 rfl)
  have lk75 := X.2.2.2.2.1 (.fieldLink RX11 75 "BreathOnLoan$State" "wares" "LBreathOnLoan$Wares;") (inX 603 rfl)
  have lk229 := X.2.2.2.2.1 (.fieldLink RX11 229 "BreathOnLoan$Wares" "count" "I") (inX 722 rfl)
  have lk45 := X.2.2.2.2.1 (.fieldLink RX11 45 "BreathOnLoan" "planner" "LBreathOnLoan$Planner;") (inX 582 rfl)
  have lk38 := X.2.2.2.2.1 (.fieldLink RX11 38 "BreathOnLoan" "judge" "LBreathOnLoan$Judge;") (inX 579 rfl)
  dsimp only [VC_X11_plan_0] at h
  refine lv_iload_n hx hb (dk DX11_plan 0 rfl) rfl (lv_at hl 1 rfl) ?_
  refine lv_if_lt (tgt := 38) hx hb (dk DX11_plan 1 rfl) (by decide) (fun hc => ?_) (fun hc => ?_)
  · have h := h.1 hc
    refine lv_ldc (v := (-1000000)) hx hb X.2.2.2.1 (X.2.2.2.2.1 (.constant RX11 235 (-1000000)) (inX 723 rfl)) (dk DX11_plan 19 rfl) ?_
    exact W.iret (v := (-1000000)) hx hb hr (fun t ht hW => ⟨⟨_, _, rfl, h, by rw [ht]; exact hP, va_K.moved hW.alike X.2.2.2.2.2.2.1, hD⟩, hS.F ht⟩) hS.2.2 (dk DX11_plan 20 rfl)
  · have h := h.2 hc
    refine lv_iload_n hx hb (dk DX11_plan 2 rfl) rfl (lv_at hl 1 rfl) ?_
    refine lv_iconst (v := 1) hx hb (dk DX11_plan 3 rfl) (by decide) ?_
    refine lv_aload_n hx hb (dk DX11_plan 4 rfl) rfl (lv_at hl 0 rfl) ?_
    refine gX_0 X hP 0 (by decide) rfl lk12 (dk DX11_plan 5 rfl) ?_
    refine gX_1 X hP 1 (by decide) rfl lk75 (dk DX11_plan 6 rfl) ?_
    refine gX_7 X hP 0 (by decide) rfl lk229 (dk DX11_plan 7 rfl) ?_
    refine lv_ishl hx hb (dk DX11_plan 8 rfl) ?_
    refine lv_icmp_ge (tgt := 38) hx hb (dk DX11_plan 9 rfl) (by decide) (fun hc => ?_) (fun hc => ?_)
    · have h := h.1 hc
      refine lv_ldc (v := (-1000000)) hx hb X.2.2.2.1 (X.2.2.2.2.1 (.constant RX11 235 (-1000000)) (inX 723 rfl)) (dk DX11_plan 19 rfl) ?_
      exact W.iret (v := (-1000000)) hx hb hr (fun t ht hW => ⟨⟨_, _, rfl, h, by rw [ht]; exact hP, va_K.moved hW.alike X.2.2.2.2.2.2.1, hD⟩, hS.F ht⟩) hS.2.2 (dk DX11_plan 20 rfl)
    · have h := h.2 hc
      refine lv_iload_n hx hb (dk DX11_plan 10 rfl) rfl (lv_at hl 1 rfl) ?_
      refine cSi (As := [.int a0]) (rest := []) ⟨X.1, X.2.1, X.2.2.1, X.2.2.2.1, X.2.2.2.2.1⟩ (m_J6_bitCount_0f7a4 (l := l) a0 h) (va_cwS 1 X.2.2.2.2.1 (gxS 724 50 51 44 rfl rfl rfl rfl) rfl rfl rfl q_J6_bitCount_0f7a4 ⟨Nat.le_of_ble_eq_true rfl, Nat.le_of_ble_eq_true rfl⟩) rfl hl.1 rfl (Nat.le_of_ble_eq_true rfl) (dk DX11_plan 11 rfl) (fun r1 h => ?_)
      refine lv_iconst (v := 4) hx hb (dk DX11_plan 12 rfl) (by decide) ?_
      refine lv_icmp_gt (tgt := 38) hx hb (dk DX11_plan 13 rfl) (by decide) (fun hc => ?_) (fun hc => ?_)
      · have h := h.1 hc
        refine lv_ldc (v := (-1000000)) hx hb X.2.2.2.1 (X.2.2.2.2.1 (.constant RX11 235 (-1000000)) (inX 723 rfl)) (dk DX11_plan 19 rfl) ?_
        exact W.iret (v := (-1000000)) hx hb hr (fun t ht hW => ⟨⟨_, _, rfl, h, by rw [ht]; exact hP, va_K.moved hW.alike X.2.2.2.2.2.2.1, hD⟩, hS.F ht⟩) hS.2.2 (dk DX11_plan 20 rfl)
      · have h := h.2 hc
        refine lv_iload_n hx hb (dk DX11_plan 14 rfl) rfl (lv_at hl 2 rfl) ?_
        refine lv_iconst (v := 1) hx hb (dk DX11_plan 15 rfl) (by decide) ?_
        refine lv_bipush (v := 24) hx hb (dk DX11_plan 16 rfl) (by decide) ?_
        refine cSi (As := [.int a1, .int 1, .int 24]) (rest := []) ⟨X.1, X.2.1, X.2.2.1, X.2.2.2.1, X.2.2.2.2.1⟩ (m_X11_within (l := l) a1 1 24 h) (va_cwS 3 X.2.2.2.2.1 (gxS 593 327 16 324 rfl rfl rfl rfl) rfl rfl rfl q_X11_within ⟨Nat.le_of_ble_eq_true rfl, Nat.le_of_ble_eq_true rfl⟩) rfl hl.1 rfl (Nat.le_of_ble_eq_true rfl) (dk DX11_plan 17 rfl) (fun r2 h => ?_)
        refine lv_if_ne (tgt := 41) hx hb (dk DX11_plan 18 rfl) (by decide) (fun hc => ?_) (fun hc => ?_)
        · have h := h.1 hc
          refine lv_aload_n hx hb (dk DX11_plan 21 rfl) rfl (lv_at hl 0 rfl) ?_
          refine gX_0 X hP 5 (by decide) rfl lk45 (dk DX11_plan 22 rfl) ?_
          refine lv_aload_n hx hb (dk DX11_plan 23 rfl) rfl (lv_at hl 0 rfl) ?_
          refine gX_0 X hP 0 (by decide) rfl lk12 (dk DX11_plan 24 rfl) ?_
          refine lv_aload_n hx hb (dk DX11_plan 25 rfl) rfl (lv_at hl 0 rfl) ?_
          refine gX_0 X hP 4 (by decide) rfl lk38 (dk DX11_plan 26 rfl) ?_
          refine lv_iload_n hx hb (dk DX11_plan 27 rfl) rfl (lv_at hl 2 rfl) ?_
          refine cXv (As := [.ref (q 1), .ref (q 48), .int a1]) (rest := []) X (m_X4_lookAhead_51_1_48 (l := l) (dC := dC) (dI := dI) (q := q) (cI := cI) (cT := cT) (en := en) (sz := _) a1 S h) (cwV 3 X.2.2.2.2.1 (gxV 725 726 727 439 433 rfl rfl rfl rfl rfl) rfl rfl rfl q_X4_lookAhead_51_1_48 ⟨Nat.le_of_ble_eq_true rfl, Nat.le_of_ble_eq_true rfl⟩) (rX_51 X hP) hP hD hS rfl hl.1 rfl (Nat.le_of_ble_eq_true rfl) (dk DX11_plan 28 rfl) (fun S3 H locs h hP hD hS => ?_)
          refine lv_aload_n hx hb (dk DX11_plan 29 rfl) rfl (lv_at hl 0 rfl) ?_
          refine gX_0 X hP 5 (by decide) rfl lk45 (dk DX11_plan 30 rfl) ?_
          refine lv_aload_n hx hb (dk DX11_plan 31 rfl) rfl (lv_at hl 0 rfl) ?_
          refine gX_0 X hP 0 (by decide) rfl lk12 (dk DX11_plan 32 rfl) ?_
          refine lv_iload_n hx hb (dk DX11_plan 33 rfl) rfl (lv_at hl 1 rfl) ?_
          refine cXv (As := [.ref (q 1), .int a0]) (rest := []) X (m_X4_choose_51_1 (l := l) (dC := dC) (dI := dI) (q := q) (cI := cI) (cT := cT) (en := en) (sz := _) a0 S3 h) (cwV 2 X.2.2.2.2.1 (gxV 728 729 730 439 470 rfl rfl rfl rfl rfl) rfl rfl rfl q_X4_choose_51_1 ⟨Nat.le_of_ble_eq_true rfl, Nat.le_of_ble_eq_true rfl⟩) (rX_51 X hP) hP hD hS rfl hl.1 rfl (Nat.le_of_ble_eq_true rfl) (dk DX11_plan 34 rfl) (fun S4 H locs h hP hD hS => ?_)
          refine lv_aload_n hx hb (dk DX11_plan 35 rfl) rfl (lv_at hl 0 rfl) ?_
          refine gX_0 X hP 5 (by decide) rfl lk45 (dk DX11_plan 36 rfl) ?_
          refine lv_iload_n hx hb (dk DX11_plan 37 rfl) rfl (lv_at hl 3 rfl) ?_
          refine cXi (As := [.int a2]) (rest := []) X (m_X4_answer_51 (l := l) (dC := dC) (dI := dI) (q := q) (cI := cI) (cT := cT) (en := en) (sz := _) a2 S4 h) (cwV 1 X.2.2.2.2.1 (gxV 731 732 733 439 471 rfl rfl rfl rfl rfl) rfl rfl rfl q_X4_answer_51 ⟨Nat.le_of_ble_eq_true rfl, Nat.le_of_ble_eq_true rfl⟩) (rX_51 X hP) hP hD hS rfl hl.1 rfl (Nat.le_of_ble_eq_true rfl) (dk DX11_plan 38 rfl) (fun r6 S5 H locs h hP hD hS => ?_)
          exact W.iret (v := r6) hx hb hr (fun t ht hW => ⟨⟨_, _, rfl, h, by rw [ht]; exact hP, va_K.moved hW.alike X.2.2.2.2.2.2.1, hD⟩, hS.F ht⟩) hS.2.2 (dk DX11_plan 39 rfl)
        · have h := h.2 hc
          refine lv_ldc (v := (-1000000)) hx hb X.2.2.2.1 (X.2.2.2.2.1 (.constant RX11 235 (-1000000)) (inX 723 rfl)) (dk DX11_plan 19 rfl) ?_
          exact W.iret (v := (-1000000)) hx hb hr (fun t ht hW => ⟨⟨_, _, rfl, h, by rw [ht]; exact hP, va_K.moved hW.alike X.2.2.2.2.2.2.1, hD⟩, hS.F ht⟩) hS.2.2 (dk DX11_plan 20 rfl)

def ww_X11_copyRow_3_23 : List Cond := .code yX11_copyRow cX11_copyRow 2 none :: (WdX ++ WsX)
theorem q_X11_copyRow_3_23 : yX11_copyRow.cls ≠ "java/lang/invoke/MethodHandle" ∧ yX11_copyRow.cls ≠ "java/lang/invoke/VarHandle" ∧ (parseMethodDescriptor yX11_copyRow.desc).map (fun d => d.parameters.length) = some 2 := by decide +kernel
def VC_X11_copyRow_3_23 (Post : XS → Prop) (S : XS) : Prop := ∀ v1 : Int32, v1 = (if (6 : Int32) < 6 then 6 else 6) → (¬ (0 : Int32) < 0 ∧ ¬ (0 : Int32) < 0 ∧ ¬ v1 < 0 ∧ (0 : Int32).toNatClampNeg + v1.toNatClampNeg ≤ 6 ∧ (0 : Int32).toNatClampNeg + v1.toNatClampNeg ≤ 6) ∧ ∀ S2 : XS, S2 = xF S 23 (va_cpy (S.2.1 3) (S.2.1 23) (0 : Int32).toNatClampNeg (0 : Int32).toNatClampNeg v1.toNatClampNeg) → Post S2
set_option maxHeartbeats 4000000 in
set_option maxRecDepth 100000 in
theorem m_X11_copyRow_3_23 {l : Launch} {dC : Nat → ClassId} {dI : Nat → Nat → Nat} {q : Nat → Nat} {cI cT : ClassId} {en : Nat → Nat} {sz : Nat} {Post : XS → Prop} (S : XS) (h : VC_X11_copyRow_3_23 Post S) : Met l yX11_copyRow ww_X11_copyRow_3_23 ({ frames := 1, cells := 0, slots := 0, locals := 40 } : Room) (va_Pc [.ref (q 3), .ref (q 23)] (preX dC dI q cI cT en S sz)) (va_Qv Post (atX dC dI q cI cT (va_A (wX q cI cT S) sz)) (va_A (wX q cI cT S) sz)) 0 0 (va_A (wX q cI cT S) sz) := by
  refine oX (cc := cX11_copyRow) (maxL := 2) (ret := none) (Qc := fun A => va_Qv Post (atX dC dI q cI cT A) A) (own := RX11) (by decide) rfl (fun w h => List.mem_cons_of_mem _ (List.mem_append_right _ h)) rfl (Nat.le_of_ble_eq_true rfl) (fun p e s m below meth c A ls X hr hlocks hP hD hS hl => ?_)
  have hx := X.1
  have hb := X.2.1
  have hl : lv_has ls 2 [(0, .ref (q 3)), (1, .ref (q 23))] := hl
  dsimp only [VC_X11_copyRow_3_23] at h
  refine lv_aload_n hx hb (dk DX11_copyRow 0 rfl) rfl (lv_at hl 0 rfl) ?_
  refine lv_iconst (v := 0) hx hb (dk DX11_copyRow 1 rfl) (by decide) ?_
  refine lv_aload_n hx hb (dk DX11_copyRow 2 rfl) rfl (lv_at hl 1 rfl) ?_
  refine lv_iconst (v := 0) hx hb (dk DX11_copyRow 3 rfl) (by decide) ?_
  refine lv_aload_n hx hb (dk DX11_copyRow 4 rfl) rfl (lv_at hl 0 rfl) ?_
  refine alX_3 X hP (dk DX11_copyRow 5 rfl) ?_
  refine lv_aload_n hx hb (dk DX11_copyRow 6 rfl) rfl (lv_at hl 1 rfl) ?_
  refine alX_23 X hP (dk DX11_copyRow 7 rfl) ?_
  refine va_mmin hx hb (X.2.2.1.trans hl.1.symm) X.2.2.2.1 (X.2.2.2.2.1 (.methodLink RX11 309 Lib.Math.min.name) (inX 19 rfl)) (X.2.2.2.2.1 (.static Lib.Math.min.name) (inX 20 rfl)) (X.2.2.2.2.1 (.initialized "java/lang/Math") (inX 21 rfl)) (X.2.2.2.2.1 (.code Lib.Math.min.name Lib.Math.min.code 2 (some .int)) (inX 22 rfl)) (Nat.le_of_ble_eq_true rfl) (Nat.le_of_ble_eq_true rfl) (Nat.zero_le _) (Nat.zero_le _) (dk DX11_copyRow 8 rfl) ?_
  refine lv_topi (fun v1 ev1 => ?_)
  have h := h v1 ev1
  obtain ⟨hcp, h⟩ := h
  refine va_copyi hx hb (X.2.2.1.trans hl.1.symm) X.2.2.2.1 (X.2.2.2.2.1 (.methodLink RX11 320 arraycopyName) (inX 23 rfl)) (X.2.2.2.2.1 (.native arraycopyName) (inX 24 rfl)) (X.2.2.2.2.1 (.static arraycopyName) (inX 25 rfl)) (X.2.2.2.2.1 (.initialized "java/lang/System") (inX 26 rfl)) X.2.2.2.2.2.2.1 hP hD hS 3 23 0 0 (ty := .int) rfl rfl rfl rfl rfl hcp.1 hcp.2.1 hcp.2.2.1 hcp.2.2.2.1 hcp.2.2.2.2 (fun _ _ => rfl) (Nat.le_of_ble_eq_true rfl) (Nat.le_of_ble_eq_true rfl) (dk DX11_copyRow 9 rfl) (fun H locs hP hD hS => ?_)
  obtain ⟨S2, eS2⟩ : ∃ z : XS, z = xF S 23 (va_cpy (S.2.1 3) (S.2.1 23) (0 : Int32).toNatClampNeg (0 : Int32).toNatClampNeg v1.toNatClampNeg) := ⟨_, rfl⟩
  have hP : va_P (dC, dI) vwCl (wX q cI cT S2) H := by rw [eS2]; exact hP
  have hD : va_D A (wX q cI cT S2) := by rw [eS2]; exact hD
  have h := h S2 eS2
  exact W.vret hx hb hr (fun t ht hW => ⟨⟨_, rfl, h, by rw [ht]; exact hP, va_K.moved hW.alike X.2.2.2.2.2.2.1, hD⟩, hS.F ht⟩) hS.2.2 (dk DX11_copyRow 10 rfl)

def ww_X11_copyRow_4_24 : List Cond := .code yX11_copyRow cX11_copyRow 2 none :: (WdX ++ WsX)
theorem q_X11_copyRow_4_24 : yX11_copyRow.cls ≠ "java/lang/invoke/MethodHandle" ∧ yX11_copyRow.cls ≠ "java/lang/invoke/VarHandle" ∧ (parseMethodDescriptor yX11_copyRow.desc).map (fun d => d.parameters.length) = some 2 := by decide +kernel
def VC_X11_copyRow_4_24 (Post : XS → Prop) (S : XS) : Prop := ∀ v1 : Int32, v1 = (if (6 : Int32) < 6 then 6 else 6) → (¬ (0 : Int32) < 0 ∧ ¬ (0 : Int32) < 0 ∧ ¬ v1 < 0 ∧ (0 : Int32).toNatClampNeg + v1.toNatClampNeg ≤ 6 ∧ (0 : Int32).toNatClampNeg + v1.toNatClampNeg ≤ 6) ∧ ∀ S2 : XS, S2 = xF S 24 (va_cpy (S.2.1 4) (S.2.1 24) (0 : Int32).toNatClampNeg (0 : Int32).toNatClampNeg v1.toNatClampNeg) → Post S2
set_option maxHeartbeats 4000000 in
set_option maxRecDepth 100000 in
theorem m_X11_copyRow_4_24 {l : Launch} {dC : Nat → ClassId} {dI : Nat → Nat → Nat} {q : Nat → Nat} {cI cT : ClassId} {en : Nat → Nat} {sz : Nat} {Post : XS → Prop} (S : XS) (h : VC_X11_copyRow_4_24 Post S) : Met l yX11_copyRow ww_X11_copyRow_4_24 ({ frames := 1, cells := 0, slots := 0, locals := 40 } : Room) (va_Pc [.ref (q 4), .ref (q 24)] (preX dC dI q cI cT en S sz)) (va_Qv Post (atX dC dI q cI cT (va_A (wX q cI cT S) sz)) (va_A (wX q cI cT S) sz)) 0 0 (va_A (wX q cI cT S) sz) := by
  refine oX (cc := cX11_copyRow) (maxL := 2) (ret := none) (Qc := fun A => va_Qv Post (atX dC dI q cI cT A) A) (own := RX11) (by decide) rfl (fun w h => List.mem_cons_of_mem _ (List.mem_append_right _ h)) rfl (Nat.le_of_ble_eq_true rfl) (fun p e s m below meth c A ls X hr hlocks hP hD hS hl => ?_)
  have hx := X.1
  have hb := X.2.1
  have hl : lv_has ls 2 [(0, .ref (q 4)), (1, .ref (q 24))] := hl
  dsimp only [VC_X11_copyRow_4_24] at h
  refine lv_aload_n hx hb (dk DX11_copyRow 0 rfl) rfl (lv_at hl 0 rfl) ?_
  refine lv_iconst (v := 0) hx hb (dk DX11_copyRow 1 rfl) (by decide) ?_
  refine lv_aload_n hx hb (dk DX11_copyRow 2 rfl) rfl (lv_at hl 1 rfl) ?_
  refine lv_iconst (v := 0) hx hb (dk DX11_copyRow 3 rfl) (by decide) ?_
  refine lv_aload_n hx hb (dk DX11_copyRow 4 rfl) rfl (lv_at hl 0 rfl) ?_
  refine alX_4 X hP (dk DX11_copyRow 5 rfl) ?_
  refine lv_aload_n hx hb (dk DX11_copyRow 6 rfl) rfl (lv_at hl 1 rfl) ?_
  refine alX_24 X hP (dk DX11_copyRow 7 rfl) ?_
  refine va_mmin hx hb (X.2.2.1.trans hl.1.symm) X.2.2.2.1 (X.2.2.2.2.1 (.methodLink RX11 309 Lib.Math.min.name) (inX 19 rfl)) (X.2.2.2.2.1 (.static Lib.Math.min.name) (inX 20 rfl)) (X.2.2.2.2.1 (.initialized "java/lang/Math") (inX 21 rfl)) (X.2.2.2.2.1 (.code Lib.Math.min.name Lib.Math.min.code 2 (some .int)) (inX 22 rfl)) (Nat.le_of_ble_eq_true rfl) (Nat.le_of_ble_eq_true rfl) (Nat.zero_le _) (Nat.zero_le _) (dk DX11_copyRow 8 rfl) ?_
  refine lv_topi (fun v1 ev1 => ?_)
  have h := h v1 ev1
  obtain ⟨hcp, h⟩ := h
  refine va_copyi hx hb (X.2.2.1.trans hl.1.symm) X.2.2.2.1 (X.2.2.2.2.1 (.methodLink RX11 320 arraycopyName) (inX 23 rfl)) (X.2.2.2.2.1 (.native arraycopyName) (inX 24 rfl)) (X.2.2.2.2.1 (.static arraycopyName) (inX 25 rfl)) (X.2.2.2.2.1 (.initialized "java/lang/System") (inX 26 rfl)) X.2.2.2.2.2.2.1 hP hD hS 4 24 0 0 (ty := .int) rfl rfl rfl rfl rfl hcp.1 hcp.2.1 hcp.2.2.1 hcp.2.2.2.1 hcp.2.2.2.2 (fun _ _ => rfl) (Nat.le_of_ble_eq_true rfl) (Nat.le_of_ble_eq_true rfl) (dk DX11_copyRow 9 rfl) (fun H locs hP hD hS => ?_)
  obtain ⟨S2, eS2⟩ : ∃ z : XS, z = xF S 24 (va_cpy (S.2.1 4) (S.2.1 24) (0 : Int32).toNatClampNeg (0 : Int32).toNatClampNeg v1.toNatClampNeg) := ⟨_, rfl⟩
  have hP : va_P (dC, dI) vwCl (wX q cI cT S2) H := by rw [eS2]; exact hP
  have hD : va_D A (wX q cI cT S2) := by rw [eS2]; exact hD
  have h := h S2 eS2
  exact W.vret hx hb hr (fun t ht hW => ⟨⟨_, rfl, h, by rw [ht]; exact hP, va_K.moved hW.alike X.2.2.2.2.2.2.1, hD⟩, hS.F ht⟩) hS.2.2 (dk DX11_copyRow 10 rfl)

def ww_X11_copyRow_5_25 : List Cond := .code yX11_copyRow cX11_copyRow 2 none :: (WdX ++ WsX)
theorem q_X11_copyRow_5_25 : yX11_copyRow.cls ≠ "java/lang/invoke/MethodHandle" ∧ yX11_copyRow.cls ≠ "java/lang/invoke/VarHandle" ∧ (parseMethodDescriptor yX11_copyRow.desc).map (fun d => d.parameters.length) = some 2 := by decide +kernel
def VC_X11_copyRow_5_25 (Post : XS → Prop) (S : XS) : Prop := ∀ v1 : Int32, v1 = (if (6 : Int32) < 6 then 6 else 6) → (¬ (0 : Int32) < 0 ∧ ¬ (0 : Int32) < 0 ∧ ¬ v1 < 0 ∧ (0 : Int32).toNatClampNeg + v1.toNatClampNeg ≤ 6 ∧ (0 : Int32).toNatClampNeg + v1.toNatClampNeg ≤ 6) ∧ ∀ S2 : XS, S2 = xF S 25 (va_cpy (S.2.1 5) (S.2.1 25) (0 : Int32).toNatClampNeg (0 : Int32).toNatClampNeg v1.toNatClampNeg) → Post S2
set_option maxHeartbeats 4000000 in
set_option maxRecDepth 100000 in
theorem m_X11_copyRow_5_25 {l : Launch} {dC : Nat → ClassId} {dI : Nat → Nat → Nat} {q : Nat → Nat} {cI cT : ClassId} {en : Nat → Nat} {sz : Nat} {Post : XS → Prop} (S : XS) (h : VC_X11_copyRow_5_25 Post S) : Met l yX11_copyRow ww_X11_copyRow_5_25 ({ frames := 1, cells := 0, slots := 0, locals := 40 } : Room) (va_Pc [.ref (q 5), .ref (q 25)] (preX dC dI q cI cT en S sz)) (va_Qv Post (atX dC dI q cI cT (va_A (wX q cI cT S) sz)) (va_A (wX q cI cT S) sz)) 0 0 (va_A (wX q cI cT S) sz) := by
  refine oX (cc := cX11_copyRow) (maxL := 2) (ret := none) (Qc := fun A => va_Qv Post (atX dC dI q cI cT A) A) (own := RX11) (by decide) rfl (fun w h => List.mem_cons_of_mem _ (List.mem_append_right _ h)) rfl (Nat.le_of_ble_eq_true rfl) (fun p e s m below meth c A ls X hr hlocks hP hD hS hl => ?_)
  have hx := X.1
  have hb := X.2.1
  have hl : lv_has ls 2 [(0, .ref (q 5)), (1, .ref (q 25))] := hl
  dsimp only [VC_X11_copyRow_5_25] at h
  refine lv_aload_n hx hb (dk DX11_copyRow 0 rfl) rfl (lv_at hl 0 rfl) ?_
  refine lv_iconst (v := 0) hx hb (dk DX11_copyRow 1 rfl) (by decide) ?_
  refine lv_aload_n hx hb (dk DX11_copyRow 2 rfl) rfl (lv_at hl 1 rfl) ?_
  refine lv_iconst (v := 0) hx hb (dk DX11_copyRow 3 rfl) (by decide) ?_
  refine lv_aload_n hx hb (dk DX11_copyRow 4 rfl) rfl (lv_at hl 0 rfl) ?_
  refine alX_5 X hP (dk DX11_copyRow 5 rfl) ?_
  refine lv_aload_n hx hb (dk DX11_copyRow 6 rfl) rfl (lv_at hl 1 rfl) ?_
  refine alX_25 X hP (dk DX11_copyRow 7 rfl) ?_
  refine va_mmin hx hb (X.2.2.1.trans hl.1.symm) X.2.2.2.1 (X.2.2.2.2.1 (.methodLink RX11 309 Lib.Math.min.name) (inX 19 rfl)) (X.2.2.2.2.1 (.static Lib.Math.min.name) (inX 20 rfl)) (X.2.2.2.2.1 (.initialized "java/lang/Math") (inX 21 rfl)) (X.2.2.2.2.1 (.code Lib.Math.min.name Lib.Math.min.code 2 (some .int)) (inX 22 rfl)) (Nat.le_of_ble_eq_true rfl) (Nat.le_of_ble_eq_true rfl) (Nat.zero_le _) (Nat.zero_le _) (dk DX11_copyRow 8 rfl) ?_
  refine lv_topi (fun v1 ev1 => ?_)
  have h := h v1 ev1
  obtain ⟨hcp, h⟩ := h
  refine va_copyi hx hb (X.2.2.1.trans hl.1.symm) X.2.2.2.1 (X.2.2.2.2.1 (.methodLink RX11 320 arraycopyName) (inX 23 rfl)) (X.2.2.2.2.1 (.native arraycopyName) (inX 24 rfl)) (X.2.2.2.2.1 (.static arraycopyName) (inX 25 rfl)) (X.2.2.2.2.1 (.initialized "java/lang/System") (inX 26 rfl)) X.2.2.2.2.2.2.1 hP hD hS 5 25 0 0 (ty := .int) rfl rfl rfl rfl rfl hcp.1 hcp.2.1 hcp.2.2.1 hcp.2.2.2.1 hcp.2.2.2.2 (fun _ _ => rfl) (Nat.le_of_ble_eq_true rfl) (Nat.le_of_ble_eq_true rfl) (dk DX11_copyRow 9 rfl) (fun H locs hP hD hS => ?_)
  obtain ⟨S2, eS2⟩ : ∃ z : XS, z = xF S 25 (va_cpy (S.2.1 5) (S.2.1 25) (0 : Int32).toNatClampNeg (0 : Int32).toNatClampNeg v1.toNatClampNeg) := ⟨_, rfl⟩
  have hP : va_P (dC, dI) vwCl (wX q cI cT S2) H := by rw [eS2]; exact hP
  have hD : va_D A (wX q cI cT S2) := by rw [eS2]; exact hD
  have h := h S2 eS2
  exact W.vret hx hb hr (fun t ht hW => ⟨⟨_, rfl, h, by rw [ht]; exact hP, va_K.moved hW.alike X.2.2.2.2.2.2.1, hD⟩, hS.F ht⟩) hS.2.2 (dk DX11_copyRow 10 rfl)

