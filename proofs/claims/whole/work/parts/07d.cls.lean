-- X5_stateOf_1 X11_blower_0 X11_quarrel_0 X11_kind_0 X11_feed_0 X11_end_0 X11_fault_0 X11_startPiece_0 X11_begin_0 X11_passHours_0
def ww_X5_stateOf_1 : List Cond := .code yX5_stateOf cX5_stateOf 5 (some .int) :: (WdX ++ WsX)
theorem q_X5_stateOf_1 : yX5_stateOf.cls = RX5 ∧ yX5_stateOf.cls ≠ "java/lang/invoke/MethodHandle" ∧ yX5_stateOf.cls ≠ "java/lang/invoke/VarHandle" ∧ (parseMethodDescriptor yX5_stateOf.desc).map (fun d => d.parameters.length) = some 1 := by decide +kernel
abbrev Hd_X5_stateOf_1 : Type := (Int32 × Int32 × Int32 × Int32)
def B_X5_stateOf_1 (Post : Int32 → XS → Prop) (K : Hd_X5_stateOf_1 → XS → Prop) : Hd_X5_stateOf_1 → XS → Prop
  | (x1, x2, x3, t0), S => vp_in x2 6 ∧ ((¬ x3 = ((S.2.1 8) x2.toNatClampNeg) → Post 2 S) ∧ (x3 = ((S.2.1 8) x2.toNatClampNeg) → ((t0 = 0 → Post 2 S) ∧ (¬ t0 = 0 → Post 1 S))))
def VC_X5_stateOf_1 (Post : Int32 → XS → Prop) (a0 : Int32) (S : XS) : Prop := ∀ K : Hd_X5_stateOf_1 → XS → Prop, (∀ h S, B_X5_stateOf_1 Post K h S → K h S) → VC_X0_has_11 (fun r2 S1 => ((r2 = 0 → Post (-1) S1) ∧ (¬ r2 = 0 → vp_in a0 10 ∧ VC_X10_has_7 (fun r4 S3 => ((¬ r4 = 0 → vp_in a0 10 ∧ ∀ v5 : Int32, v5 = (S3.2.1 12) a0.toNatClampNeg → VC_X0_sum_11 (fun r7 S6 => vp_in v5 6 ∧ ((((S6.2.1 8) v5.toNatClampNeg) ≤ r7 → vp_in v5 6 ∧ VC_X0_givers_11 (fun r9 S8 => VC_X1_voicesOf_2 (fun r11 S10 => ((¬ (((S6.2.1 9) v5.toNatClampNeg) &&& (r11 ^^^ (-1))) = 0 → K (a0, v5, r7, 0) S10) ∧ ((((S6.2.1 9) v5.toNatClampNeg) &&& (r11 ^^^ (-1))) = 0 → K (a0, v5, r7, 1) S10))) r9 S8) a0 S6) ∧ (¬ ((S6.2.1 8) v5.toNatClampNeg) ≤ r7 → Post 0 S6))) a0 (-1) (-1) S3) ∧ (r4 = 0 → Post (-1) S3))) ((S1.2.1 12) a0.toNatClampNeg) S1))) a0 S
set_option maxHeartbeats 4000000 in
set_option maxRecDepth 100000 in
theorem h_X5_stateOf_1_0 {p : Program} {l : Launch} {e : Env} {s : State} {m : MethodId} {below : List Frame} {meth : Method} {c : Code} {dC : Nat → ClassId} {dI : Nat → Nat → Nat} {q : Nat → Nat} {cI cT : ClassId} {en : Nat → Nat} {A : Nat → Prop} {args : Array Value} {Post : Int32 → XS → Prop} {K : Hd_X5_stateOf_1 → XS → Prop} (X : XX p s m args c cX5_stateOf 5 ww_X5_stateOf_1 RX5 dC dI cI cT en A) (hr : meth.sig.returnType = (some .int)) (hlocks : meth.locks = false) (hK0 : ∀ (x1 : Int32) (x2 : Int32) (x3 : Int32) (t0 : Int32) (S : XS), K (x1, x2, x3, t0) S → ∀ (H : Heap) (locs : List Loc), va_P (dC, dI) vwCl (wX q cI cT S) H → va_D A (wX q cI cT S) → va_S A s.heap H locs → ∀ ls : Array Slot, lv_has ls 5 [(0, .ref (q 1)), (1, .int x1), (2, .int x2), (3, .int x3)] → W p l e (headSpec ww_X5_stateOf_1 ({ frames := 2, cells := 0, slots := 0, locals := 49 } : Room)).room s m args below meth c H locs 0 0 (MQ below (va_Qi Post (atX dC dI q cI cT A) A) args s 0 0 A) (F0 m 103 ls [.int t0])) (x1 : Int32) (x2 : Int32) (x3 : Int32) (t0 : Int32) (S : XS) (h : B_X5_stateOf_1 Post K (x1, x2, x3, t0) S) : ∀ (H : Heap) (locs : List Loc), va_P (dC, dI) vwCl (wX q cI cT S) H → va_D A (wX q cI cT S) → va_S A s.heap H locs → ∀ ls : Array Slot, lv_has ls 5 [(0, .ref (q 1)), (1, .int x1), (2, .int x2), (3, .int x3)] → W p l e (headSpec ww_X5_stateOf_1 ({ frames := 2, cells := 0, slots := 0, locals := 49 } : Room)).room s m args below meth c H locs 0 0 (MQ below (va_Qi Post (atX dC dI q cI cT A) A) args s 0 0 A) (F0 m 103 ls [.int t0]) := by
  have hx := X.1
  have hb := X.2.1
  intro H locs hP hD hS ls hl
  have lk28 := X.2.2.2.2.1 (.fieldLink RX5 28 "BreathOnLoan$State" "bench" "LBreathOnLoan$Bench;") (inX 494 rfl)
  have lk21 := X.2.2.2.2.1 (.fieldLink RX5 21 "BreathOnLoan$State" "wares" "LBreathOnLoan$Wares;") (inX 491 rfl)
  have lk63 := X.2.2.2.2.1 (.fieldLink RX5 63 "BreathOnLoan$Bench" "kindOf" "[I") (inX 512 rfl)
  have lk72 := X.2.2.2.2.1 (.fieldLink RX5 72 "BreathOnLoan$Wares" "want" "[I") (inX 513 rfl)
  have lk75 := X.2.2.2.2.1 (.fieldLink RX5 75 "BreathOnLoan$Wares" "voices" "[I") (inX 514 rfl)
  have lk12 := X.2.2.2.2.1 (.fieldLink RX5 12 "BreathOnLoan$State" "crew" "LBreathOnLoan$Crew;") (inX 488 rfl)
  dsimp only [B_X5_stateOf_1] at h
  refine lv_istore (lv' := [(4, .int t0), (0, .ref (q 1)), (1, .int x1), (2, .int x2), (3, .int x3)]) hx hb (dk DX5_stateOf 57 rfl) hl (by decide) rfl (fun ls hl => ?_)
  refine lv_iload_n hx hb (dk DX5_stateOf 58 rfl) rfl (lv_at hl 4 rfl) ?_
  refine lv_aload_n hx hb (dk DX5_stateOf 59 rfl) rfl (lv_at hl 1 rfl) ?_
  refine gX_1 X hP 1 (by decide) rfl lk21 (dk DX5_stateOf 60 rfl) ?_
  refine gX_7 X hP 1 (by decide) rfl lk72 (dk DX5_stateOf 61 rfl) ?_
  refine lv_iload_n hx hb (dk DX5_stateOf 62 rfl) rfl (lv_at hl 3 rfl) ?_
  obtain ⟨hin, h⟩ := h
  refine ldX_8 X hP hin (dk DX5_stateOf 63 rfl) ?_
  refine lv_icmp_ne (tgt := 127) hx hb (dk DX5_stateOf 64 rfl) (by decide) (fun hc => ?_) (fun hc => ?_)
  · have h := h.1 hc
    refine lv_iconst (v := 2) hx hb (dk DX5_stateOf 69 rfl) (by decide) ?_
    exact W.iret (v := 2) hx hb hr (fun t ht hW => ⟨⟨_, _, rfl, h, by rw [ht]; exact hP, va_K.moved hW.alike X.2.2.2.2.2.2.1, hD⟩, hS.F ht⟩) hS.2.2 (dk DX5_stateOf 70 rfl)
  · have h := h.2 hc
    refine lv_iload hx hb (dk DX5_stateOf 65 rfl) (lv_at hl 0 rfl) ?_
    refine lv_if_eq (tgt := 127) hx hb (dk DX5_stateOf 66 rfl) (by decide) (fun hc => ?_) (fun hc => ?_)
    · have h := h.1 hc
      refine lv_iconst (v := 2) hx hb (dk DX5_stateOf 69 rfl) (by decide) ?_
      exact W.iret (v := 2) hx hb hr (fun t ht hW => ⟨⟨_, _, rfl, h, by rw [ht]; exact hP, va_K.moved hW.alike X.2.2.2.2.2.2.1, hD⟩, hS.F ht⟩) hS.2.2 (dk DX5_stateOf 70 rfl)
    · have h := h.2 hc
      refine lv_iconst (v := 1) hx hb (dk DX5_stateOf 67 rfl) (by decide) ?_
      refine lv_goto (tgt := 128) hx hb (dk DX5_stateOf 68 rfl) (by decide) ?_
      exact W.iret (v := 1) hx hb hr (fun t ht hW => ⟨⟨_, _, rfl, h, by rw [ht]; exact hP, va_K.moved hW.alike X.2.2.2.2.2.2.1, hD⟩, hS.F ht⟩) hS.2.2 (dk DX5_stateOf 70 rfl)
set_option maxHeartbeats 4000000 in
set_option maxRecDepth 100000 in
theorem m_X5_stateOf_1 {l : Launch} {dC : Nat → ClassId} {dI : Nat → Nat → Nat} {q : Nat → Nat} {cI cT : ClassId} {en : Nat → Nat} {sz : Nat} {Post : Int32 → XS → Prop} (a0 : Int32) (S : XS) (h : VC_X5_stateOf_1 Post a0 S) : Met l yX5_stateOf ww_X5_stateOf_1 ({ frames := 2, cells := 0, slots := 0, locals := 49 } : Room) (va_Pc [.ref (q 1), .int a0] (preX dC dI q cI cT en S sz)) (va_Qi Post (atX dC dI q cI cT (va_A (wX q cI cT S) sz)) (va_A (wX q cI cT S) sz)) 0 0 (va_A (wX q cI cT S) sz) := by
  refine oX (cc := cX5_stateOf) (maxL := 5) (ret := (some .int)) (Qc := fun A => va_Qi Post (atX dC dI q cI cT A) A) (own := RX5) (by decide) rfl (fun w h => List.mem_cons_of_mem _ (List.mem_append_right _ h)) rfl (Nat.le_of_ble_eq_true rfl) (fun p e s m below meth c A ls X hr hlocks hP hD hS hl => ?_)
  have hx := X.1
  have hb := X.2.1
  have hl : lv_has ls 5 [(0, .ref (q 1)), (1, .int a0)] := hl
  have lk28 := X.2.2.2.2.1 (.fieldLink RX5 28 "BreathOnLoan$State" "bench" "LBreathOnLoan$Bench;") (inX 494 rfl)
  have lk21 := X.2.2.2.2.1 (.fieldLink RX5 21 "BreathOnLoan$State" "wares" "LBreathOnLoan$Wares;") (inX 491 rfl)
  have lk63 := X.2.2.2.2.1 (.fieldLink RX5 63 "BreathOnLoan$Bench" "kindOf" "[I") (inX 512 rfl)
  have lk72 := X.2.2.2.2.1 (.fieldLink RX5 72 "BreathOnLoan$Wares" "want" "[I") (inX 513 rfl)
  have lk75 := X.2.2.2.2.1 (.fieldLink RX5 75 "BreathOnLoan$Wares" "voices" "[I") (inX 514 rfl)
  have lk12 := X.2.2.2.2.1 (.fieldLink RX5 12 "BreathOnLoan$State" "crew" "LBreathOnLoan$Crew;") (inX 488 rfl)
  generalize hargs : ([.ref (q 1), .int a0] : List Value).toArray = args at X ⊢
  have h := h (fun hd S => match hd with | (x1, x2, x3, t0) => ∀ (H : Heap) (locs : List Loc), va_P (dC, dI) vwCl (wX q cI cT S) H → va_D A (wX q cI cT S) → va_S A s.heap H locs → ∀ ls : Array Slot, lv_has ls 5 [(0, .ref (q 1)), (1, .int x1), (2, .int x2), (3, .int x3)] → W p l e (headSpec ww_X5_stateOf_1 ({ frames := 2, cells := 0, slots := 0, locals := 49 } : Room)).room s m args below meth c H locs 0 0 (MQ below (va_Qi Post (atX dC dI q cI cT A) A) args s 0 0 A) (F0 m 103 ls [.int t0])) ?_
  · skip
    refine lv_aload_n hx hb (dk DX5_stateOf 0 rfl) rfl (lv_at hl 0 rfl) ?_
    refine gX_1 X hP 2 (by decide) rfl lk28 (dk DX5_stateOf 1 rfl) ?_
    refine lv_iload_n hx hb (dk DX5_stateOf 2 rfl) rfl (lv_at hl 1 rfl) ?_
    refine cXi (As := [.int a0]) (rest := []) X (m_X0_has_11 (l := l) (dC := dC) (dI := dI) (q := q) (cI := cI) (cT := cT) (en := en) (sz := _) a0 S h) (cwV 1 X.2.2.2.2.1 (gxV 515 144 145 146 8 rfl rfl rfl rfl rfl) rfl rfl rfl q_X0_has_11 ⟨Nat.le_of_ble_eq_true rfl, Nat.le_of_ble_eq_true rfl⟩) (rX_11 X hP) hP hD hS rfl hl.1 rfl (Nat.le_of_ble_eq_true rfl) (dk DX5_stateOf 3 rfl) (fun r2 S1 H locs h hP hD hS => ?_)
    refine lv_if_eq (tgt := 30) hx hb (dk DX5_stateOf 4 rfl) (by decide) (fun hc => ?_) (fun hc => ?_)
    · have h := h.1 hc
      refine lv_iconst (v := (-1)) hx hb (dk DX5_stateOf 14 rfl) (by decide) ?_
      exact W.iret (v := (-1)) hx hb hr (fun t ht hW => ⟨⟨_, _, rfl, h, by rw [ht]; exact hP, va_K.moved hW.alike X.2.2.2.2.2.2.1, hD⟩, hS.F ht⟩) hS.2.2 (dk DX5_stateOf 15 rfl)
    · have h := h.2 hc
      refine lv_aload_n hx hb (dk DX5_stateOf 5 rfl) rfl (lv_at hl 0 rfl) ?_
      refine gX_1 X hP 1 (by decide) rfl lk21 (dk DX5_stateOf 6 rfl) ?_
      refine lv_aload_n hx hb (dk DX5_stateOf 7 rfl) rfl (lv_at hl 0 rfl) ?_
      refine gX_1 X hP 2 (by decide) rfl lk28 (dk DX5_stateOf 8 rfl) ?_
      refine gX_11 X hP 2 (by decide) rfl lk63 (dk DX5_stateOf 9 rfl) ?_
      refine lv_iload_n hx hb (dk DX5_stateOf 10 rfl) rfl (lv_at hl 1 rfl) ?_
      obtain ⟨hin, h⟩ := h
      refine ldX_12 X hP hin (dk DX5_stateOf 11 rfl) ?_
      refine cXi (As := [.int ((S1.2.1 12) a0.toNatClampNeg)]) (rest := []) X (m_X10_has_7 (l := l) (dC := dC) (dI := dI) (q := q) (cI := cI) (cT := cT) (en := en) (sz := _) ((S1.2.1 12) a0.toNatClampNeg) S1 h) (cwV 1 X.2.2.2.2.1 (gxV 516 148 149 150 135 rfl rfl rfl rfl rfl) rfl rfl rfl q_X10_has_7 ⟨Nat.le_of_ble_eq_true rfl, Nat.le_of_ble_eq_true rfl⟩) (rX_7 X hP) hP hD hS rfl hl.1 rfl (Nat.le_of_ble_eq_true rfl) (dk DX5_stateOf 12 rfl) (fun r4 S3 H locs h hP hD hS => ?_)
      refine lv_if_ne (tgt := 32) hx hb (dk DX5_stateOf 13 rfl) (by decide) (fun hc => ?_) (fun hc => ?_)
      · have h := h.1 hc
        refine lv_aload_n hx hb (dk DX5_stateOf 16 rfl) rfl (lv_at hl 0 rfl) ?_
        refine gX_1 X hP 2 (by decide) rfl lk28 (dk DX5_stateOf 17 rfl) ?_
        refine gX_11 X hP 2 (by decide) rfl lk63 (dk DX5_stateOf 18 rfl) ?_
        refine lv_iload_n hx hb (dk DX5_stateOf 19 rfl) rfl (lv_at hl 1 rfl) ?_
        obtain ⟨hin, h⟩ := h
        refine ldX_12 X hP hin (dk DX5_stateOf 20 rfl) ?_
        refine lv_topi (fun v5 ev5 => ?_)
        have h := h v5 ev5
        refine lv_istore_n (lv' := [(2, .int v5), (0, .ref (q 1)), (1, .int a0)]) hx hb (dk DX5_stateOf 21 rfl) rfl hl (by decide) rfl (fun ls hl => ?_)
        refine lv_aload_n hx hb (dk DX5_stateOf 22 rfl) rfl (lv_at hl 1 rfl) ?_
        refine gX_1 X hP 2 (by decide) rfl lk28 (dk DX5_stateOf 23 rfl) ?_
        refine lv_iload_n hx hb (dk DX5_stateOf 24 rfl) rfl (lv_at hl 2 rfl) ?_
        refine lv_iconst (v := (-1)) hx hb (dk DX5_stateOf 25 rfl) (by decide) ?_
        refine lv_iconst (v := (-1)) hx hb (dk DX5_stateOf 26 rfl) (by decide) ?_
        refine cXi (As := [.int a0, .int (-1), .int (-1)]) (rest := []) X (m_X0_sum_11 (l := l) (dC := dC) (dI := dI) (q := q) (cI := cI) (cT := cT) (en := en) (sz := _) a0 (-1) (-1) S3 h) (cwV 3 X.2.2.2.2.1 (gxV 517 164 165 146 14 rfl rfl rfl rfl rfl) rfl rfl rfl q_X0_sum_11 ⟨Nat.le_of_ble_eq_true rfl, Nat.le_of_ble_eq_true rfl⟩) (rX_11 X hP) hP hD hS rfl hl.1 rfl (Nat.le_of_ble_eq_true rfl) (dk DX5_stateOf 27 rfl) (fun r7 S6 H locs h hP hD hS => ?_)
        refine lv_istore_n (lv' := [(3, .int r7), (2, .int v5), (0, .ref (q 1)), (1, .int a0)]) hx hb (dk DX5_stateOf 28 rfl) rfl hl (by decide) rfl (fun ls hl => ?_)
        refine lv_iload_n hx hb (dk DX5_stateOf 29 rfl) rfl (lv_at hl 0 rfl) ?_
        refine lv_aload_n hx hb (dk DX5_stateOf 30 rfl) rfl (lv_at hl 2 rfl) ?_
        refine gX_1 X hP 1 (by decide) rfl lk21 (dk DX5_stateOf 31 rfl) ?_
        refine gX_7 X hP 1 (by decide) rfl lk72 (dk DX5_stateOf 32 rfl) ?_
        refine lv_iload_n hx hb (dk DX5_stateOf 33 rfl) rfl (lv_at hl 1 rfl) ?_
        obtain ⟨hin, h⟩ := h
        refine ldX_8 X hP hin (dk DX5_stateOf 34 rfl) ?_
        refine lv_icmp_ge (tgt := 68) hx hb (dk DX5_stateOf 35 rfl) (by decide) (fun hc => ?_) (fun hc => ?_)
        · have h := h.1 hc
          refine lv_aload_n hx hb (dk DX5_stateOf 38 rfl) rfl (lv_at hl 2 rfl) ?_
          refine gX_1 X hP 1 (by decide) rfl lk21 (dk DX5_stateOf 39 rfl) ?_
          refine gX_7 X hP 2 (by decide) rfl lk75 (dk DX5_stateOf 40 rfl) ?_
          refine lv_iload_n hx hb (dk DX5_stateOf 41 rfl) rfl (lv_at hl 1 rfl) ?_
          obtain ⟨hin, h⟩ := h
          refine ldX_9 X hP hin (dk DX5_stateOf 42 rfl) ?_
          refine lv_aload_n hx hb (dk DX5_stateOf 43 rfl) rfl (lv_at hl 2 rfl) ?_
          refine gX_1 X hP 0 (by decide) rfl lk12 (dk DX5_stateOf 44 rfl) ?_
          refine lv_aload_n hx hb (dk DX5_stateOf 45 rfl) rfl (lv_at hl 2 rfl) ?_
          refine gX_1 X hP 2 (by decide) rfl lk28 (dk DX5_stateOf 46 rfl) ?_
          refine lv_iload_n hx hb (dk DX5_stateOf 47 rfl) rfl (lv_at hl 3 rfl) ?_
          refine cXi (As := [.int a0]) (rest := [.ref (q 2), .int ((S6.2.1 9) v5.toNatClampNeg)]) X (m_X0_givers_11 (l := l) (dC := dC) (dI := dI) (q := q) (cI := cI) (cT := cT) (en := en) (sz := _) a0 S6 h) (cwV 1 X.2.2.2.2.1 (gxV 518 153 154 146 17 rfl rfl rfl rfl rfl) rfl rfl rfl q_X0_givers_11 ⟨Nat.le_of_ble_eq_true rfl, Nat.le_of_ble_eq_true rfl⟩) (rX_11 X hP) hP hD hS rfl hl.1 rfl (Nat.le_of_ble_eq_true rfl) (dk DX5_stateOf 48 rfl) (fun r9 S8 H locs h hP hD hS => ?_)
          refine cXi (As := [.int r9]) (rest := [.int ((S6.2.1 9) v5.toNatClampNeg)]) X (m_X1_voicesOf_2 (l := l) (dC := dC) (dI := dI) (q := q) (cI := cI) (cT := cT) (en := en) (sz := _) r9 S8 h) (cwV 1 X.2.2.2.2.1 (gxV 519 449 450 42 43 rfl rfl rfl rfl rfl) rfl rfl rfl q_X1_voicesOf_2 ⟨Nat.le_of_ble_eq_true rfl, Nat.le_of_ble_eq_true rfl⟩) (rX_2 X hP) hP hD hS rfl hl.1 rfl (Nat.le_of_ble_eq_true rfl) (dk DX5_stateOf 49 rfl) (fun r11 S10 H locs h hP hD hS => ?_)
          refine lv_iconst (v := (-1)) hx hb (dk DX5_stateOf 50 rfl) (by decide) ?_
          refine lv_ixor hx hb (dk DX5_stateOf 51 rfl) ?_
          refine lv_iand hx hb (dk DX5_stateOf 52 rfl) ?_
          refine lv_if_ne (tgt := 102) hx hb (dk DX5_stateOf 53 rfl) (by decide) (fun hc => ?_) (fun hc => ?_)
          · have h := h.1 hc
            refine lv_iconst (v := 0) hx hb (dk DX5_stateOf 56 rfl) (by decide) ?_
            exact h _ _ hP hD hS ls (lv_sub hl [2, 3, 1, 0] rfl)
          · have h := h.2 hc
            refine lv_iconst (v := 1) hx hb (dk DX5_stateOf 54 rfl) (by decide) ?_
            refine lv_goto (tgt := 103) hx hb (dk DX5_stateOf 55 rfl) (by decide) ?_
            exact h _ _ hP hD hS ls (lv_sub hl [2, 3, 1, 0] rfl)
        · have h := h.2 hc
          refine lv_iconst (v := 0) hx hb (dk DX5_stateOf 36 rfl) (by decide) ?_
          exact W.iret (v := 0) hx hb hr (fun t ht hW => ⟨⟨_, _, rfl, h, by rw [ht]; exact hP, va_K.moved hW.alike X.2.2.2.2.2.2.1, hD⟩, hS.F ht⟩) hS.2.2 (dk DX5_stateOf 37 rfl)
      · have h := h.2 hc
        refine lv_iconst (v := (-1)) hx hb (dk DX5_stateOf 14 rfl) (by decide) ?_
        exact W.iret (v := (-1)) hx hb hr (fun t ht hW => ⟨⟨_, _, rfl, h, by rw [ht]; exact hP, va_K.moved hW.alike X.2.2.2.2.2.2.1, hD⟩, hS.F ht⟩) hS.2.2 (dk DX5_stateOf 15 rfl)
  · rintro ⟨x1, x2, x3, t0⟩ S hB
    exact h_X5_stateOf_1_0 X hr hlocks (hK0 := fun _ _ _ _ _ h => h) x1 x2 x3 t0 S hB

def ww_X11_blower_0 : List Cond := .code yX11_blower cX11_blower 4 (some .int) :: (WdX ++ WsX)
theorem q_X11_blower_0 : yX11_blower.cls = RX11 ∧ yX11_blower.cls ≠ "java/lang/invoke/MethodHandle" ∧ yX11_blower.cls ≠ "java/lang/invoke/VarHandle" ∧ (parseMethodDescriptor yX11_blower.desc).map (fun d => d.parameters.length) = some 3 := by decide +kernel
def VC_X11_blower_0 (Post : Int32 → XS → Prop) (a0 : Int32) (a1 : Int32) (a2 : Int32) (S : XS) : Prop := VC_X11_within (fun r1 => ((r1 = 0 → Post (-1) S) ∧ (¬ r1 = 0 → VC_X11_within (fun r2 => ((r2 = 0 → Post (-1) S) ∧ (¬ r2 = 0 → VC_X11_within (fun r3 => ((¬ r3 = 0 → VC_X1_join_2 (fun r5 S4 => Post r5 S4) a0 a1 a2 S) ∧ (r3 = 0 → Post (-1) S))) a2 0 999))) a1 0 3))) a0 1 9
set_option maxHeartbeats 4000000 in
set_option maxRecDepth 100000 in
theorem m_X11_blower_0 {l : Launch} {dC : Nat → ClassId} {dI : Nat → Nat → Nat} {q : Nat → Nat} {cI cT : ClassId} {en : Nat → Nat} {sz : Nat} {Post : Int32 → XS → Prop} (a0 : Int32) (a1 : Int32) (a2 : Int32) (S : XS) (h : VC_X11_blower_0 Post a0 a1 a2 S) : Met l yX11_blower ww_X11_blower_0 ({ frames := 1, cells := 0, slots := 0, locals := 23 } : Room) (va_Pc [.ref (q 0), .int a0, .int a1, .int a2] (preX dC dI q cI cT en S sz)) (va_Qi Post (atX dC dI q cI cT (va_A (wX q cI cT S) sz)) (va_A (wX q cI cT S) sz)) 0 0 (va_A (wX q cI cT S) sz) := by
  refine oX (cc := cX11_blower) (maxL := 4) (ret := (some .int)) (Qc := fun A => va_Qi Post (atX dC dI q cI cT A) A) (own := RX11) (by decide) rfl (fun w h => List.mem_cons_of_mem _ (List.mem_append_right _ h)) rfl (Nat.le_of_ble_eq_true rfl) (fun p e s m below meth c A ls X hr hlocks hP hD hS hl => ?_)
  have hx := X.1
  have hb := X.2.1
  have hl : lv_has ls 4 [(0, .ref (q 0)), (1, .int a0), (2, .int a1), (3, .int a2)] := hl
  have lk12 := X.2.2.2.2.1 (.fieldLink RX11 12 "BreathOnLoan" "now" "LBreathOnLoan$State;") (inX 568 rfl)
  have lk57 := X.2.2.2.2.1 (.fieldLink RX11 57 "BreathOnLoan$State" "crew" "LBreathOnLoan$Crew;") (inX 592 rfl)
  dsimp only [VC_X11_blower_0] at h
  refine lv_iload_n hx hb (dk DX11_blower 0 rfl) rfl (lv_at hl 1 rfl) ?_
  refine lv_iconst (v := 1) hx hb (dk DX11_blower 1 rfl) (by decide) ?_
  refine lv_bipush (v := 9) hx hb (dk DX11_blower 2 rfl) (by decide) ?_
  refine cSi (As := [.int a0, .int 1, .int 9]) (rest := []) ⟨X.1, X.2.1, X.2.2.1, X.2.2.2.1, X.2.2.2.2.1⟩ (m_X11_within (l := l) a0 1 9 h) (va_cwS 3 X.2.2.2.2.1 (gxS 593 327 16 324 rfl rfl rfl rfl) rfl rfl rfl q_X11_within ⟨Nat.le_of_ble_eq_true rfl, Nat.le_of_ble_eq_true rfl⟩) rfl hl.1 rfl (Nat.le_of_ble_eq_true rfl) (dk DX11_blower 3 rfl) (fun r1 h => ?_)
  refine lv_if_eq (tgt := 30) hx hb (dk DX11_blower 4 rfl) (by decide) (fun hc => ?_) (fun hc => ?_)
  · have h := h.1 hc
    refine lv_iconst (v := (-1)) hx hb (dk DX11_blower 15 rfl) (by decide) ?_
    exact W.iret (v := (-1)) hx hb hr (fun t ht hW => ⟨⟨_, _, rfl, h, by rw [ht]; exact hP, va_K.moved hW.alike X.2.2.2.2.2.2.1, hD⟩, hS.F ht⟩) hS.2.2 (dk DX11_blower 16 rfl)
  · have h := h.2 hc
    refine lv_iload_n hx hb (dk DX11_blower 5 rfl) rfl (lv_at hl 2 rfl) ?_
    refine lv_iconst (v := 0) hx hb (dk DX11_blower 6 rfl) (by decide) ?_
    refine lv_iconst (v := 3) hx hb (dk DX11_blower 7 rfl) (by decide) ?_
    refine cSi (As := [.int a1, .int 0, .int 3]) (rest := []) ⟨X.1, X.2.1, X.2.2.1, X.2.2.2.1, X.2.2.2.2.1⟩ (m_X11_within (l := l) a1 0 3 h) (va_cwS 3 X.2.2.2.2.1 (gxS 593 327 16 324 rfl rfl rfl rfl) rfl rfl rfl q_X11_within ⟨Nat.le_of_ble_eq_true rfl, Nat.le_of_ble_eq_true rfl⟩) rfl hl.1 rfl (Nat.le_of_ble_eq_true rfl) (dk DX11_blower 8 rfl) (fun r2 h => ?_)
    refine lv_if_eq (tgt := 30) hx hb (dk DX11_blower 9 rfl) (by decide) (fun hc => ?_) (fun hc => ?_)
    · have h := h.1 hc
      refine lv_iconst (v := (-1)) hx hb (dk DX11_blower 15 rfl) (by decide) ?_
      exact W.iret (v := (-1)) hx hb hr (fun t ht hW => ⟨⟨_, _, rfl, h, by rw [ht]; exact hP, va_K.moved hW.alike X.2.2.2.2.2.2.1, hD⟩, hS.F ht⟩) hS.2.2 (dk DX11_blower 16 rfl)
    · have h := h.2 hc
      refine lv_iload_n hx hb (dk DX11_blower 10 rfl) rfl (lv_at hl 3 rfl) ?_
      refine lv_iconst (v := 0) hx hb (dk DX11_blower 11 rfl) (by decide) ?_
      refine lv_sipush (v := 999) hx hb (dk DX11_blower 12 rfl) (by decide) ?_
      refine cSi (As := [.int a2, .int 0, .int 999]) (rest := []) ⟨X.1, X.2.1, X.2.2.1, X.2.2.2.1, X.2.2.2.2.1⟩ (m_X11_within (l := l) a2 0 999 h) (va_cwS 3 X.2.2.2.2.1 (gxS 593 327 16 324 rfl rfl rfl rfl) rfl rfl rfl q_X11_within ⟨Nat.le_of_ble_eq_true rfl, Nat.le_of_ble_eq_true rfl⟩) rfl hl.1 rfl (Nat.le_of_ble_eq_true rfl) (dk DX11_blower 13 rfl) (fun r3 h => ?_)
      refine lv_if_ne (tgt := 32) hx hb (dk DX11_blower 14 rfl) (by decide) (fun hc => ?_) (fun hc => ?_)
      · have h := h.1 hc
        refine lv_aload_n hx hb (dk DX11_blower 17 rfl) rfl (lv_at hl 0 rfl) ?_
        refine gX_0 X hP 0 (by decide) rfl lk12 (dk DX11_blower 18 rfl) ?_
        refine gX_1 X hP 0 (by decide) rfl lk57 (dk DX11_blower 19 rfl) ?_
        refine lv_iload_n hx hb (dk DX11_blower 20 rfl) rfl (lv_at hl 1 rfl) ?_
        refine lv_iload_n hx hb (dk DX11_blower 21 rfl) rfl (lv_at hl 2 rfl) ?_
        refine lv_iload_n hx hb (dk DX11_blower 22 rfl) rfl (lv_at hl 3 rfl) ?_
        refine cXi (As := [.int a0, .int a1, .int a2]) (rest := []) X (m_X1_join_2 (l := l) (dC := dC) (dI := dI) (q := q) (cI := cI) (cT := cT) (en := en) (sz := _) a0 a1 a2 S h) (cwV 3 X.2.2.2.2.1 (gxV 594 595 596 42 37 rfl rfl rfl rfl rfl) rfl rfl rfl q_X1_join_2 ⟨Nat.le_of_ble_eq_true rfl, Nat.le_of_ble_eq_true rfl⟩) (rX_2 X hP) hP hD hS rfl hl.1 rfl (Nat.le_of_ble_eq_true rfl) (dk DX11_blower 23 rfl) (fun r5 S4 H locs h hP hD hS => ?_)
        exact W.iret (v := r5) hx hb hr (fun t ht hW => ⟨⟨_, _, rfl, h, by rw [ht]; exact hP, va_K.moved hW.alike X.2.2.2.2.2.2.1, hD⟩, hS.F ht⟩) hS.2.2 (dk DX11_blower 24 rfl)
      · have h := h.2 hc
        refine lv_iconst (v := (-1)) hx hb (dk DX11_blower 15 rfl) (by decide) ?_
        exact W.iret (v := (-1)) hx hb hr (fun t ht hW => ⟨⟨_, _, rfl, h, by rw [ht]; exact hP, va_K.moved hW.alike X.2.2.2.2.2.2.1, hD⟩, hS.F ht⟩) hS.2.2 (dk DX11_blower 16 rfl)

def ww_X11_quarrel_0 : List Cond := .code yX11_quarrel cX11_quarrel 4 (some .boolean) :: (WdX ++ WsX)
theorem q_X11_quarrel_0 : yX11_quarrel.cls = RX11 ∧ yX11_quarrel.cls ≠ "java/lang/invoke/MethodHandle" ∧ yX11_quarrel.cls ≠ "java/lang/invoke/VarHandle" ∧ (parseMethodDescriptor yX11_quarrel.desc).map (fun d => d.parameters.length) = some 3 := by decide +kernel
def VC_X11_quarrel_0 (Post : Int32 → XS → Prop) (a0 : Int32) (a1 : Int32) (a2 : Int32) (S : XS) : Prop := ((a0 = a1 → Post 0 S) ∧ (¬ a0 = a1 → VC_X1_has_2 (fun r2 S1 => ((r2 = 0 → Post 0 S1) ∧ (¬ r2 = 0 → VC_X1_has_2 (fun r4 S3 => ((¬ r4 = 0 → VC_X1_setFoes_2 (fun S5 => Post 1 S5) a0 a1 a2 S3) ∧ (r4 = 0 → Post 0 S3))) a1 S1))) a0 S))
set_option maxHeartbeats 4000000 in
set_option maxRecDepth 100000 in
theorem m_X11_quarrel_0 {l : Launch} {dC : Nat → ClassId} {dI : Nat → Nat → Nat} {q : Nat → Nat} {cI cT : ClassId} {en : Nat → Nat} {sz : Nat} {Post : Int32 → XS → Prop} (a0 : Int32) (a1 : Int32) (a2 : Int32) (S : XS) (h : VC_X11_quarrel_0 Post a0 a1 a2 S) : Met l yX11_quarrel ww_X11_quarrel_0 ({ frames := 2, cells := 0, slots := 0, locals := 44 } : Room) (va_Pc [.ref (q 0), .int a0, .int a1, .int a2] (preX dC dI q cI cT en S sz)) (va_Qi Post (atX dC dI q cI cT (va_A (wX q cI cT S) sz)) (va_A (wX q cI cT S) sz)) 0 0 (va_A (wX q cI cT S) sz) := by
  refine oX (cc := cX11_quarrel) (maxL := 4) (ret := (some .boolean)) (Qc := fun A => va_Qi Post (atX dC dI q cI cT A) A) (own := RX11) (by decide) rfl (fun w h => List.mem_cons_of_mem _ (List.mem_append_right _ h)) rfl (Nat.le_of_ble_eq_true rfl) (fun p e s m below meth c A ls X hr hlocks hP hD hS hl => ?_)
  have hx := X.1
  have hb := X.2.1
  have hl : lv_has ls 4 [(0, .ref (q 0)), (1, .int a0), (2, .int a1), (3, .int a2)] := hl
  have lk12 := X.2.2.2.2.1 (.fieldLink RX11 12 "BreathOnLoan" "now" "LBreathOnLoan$State;") (inX 568 rfl)
  have lk57 := X.2.2.2.2.1 (.fieldLink RX11 57 "BreathOnLoan$State" "crew" "LBreathOnLoan$Crew;") (inX 592 rfl)
  dsimp only [VC_X11_quarrel_0] at h
  refine lv_iload_n hx hb (dk DX11_quarrel 0 rfl) rfl (lv_at hl 1 rfl) ?_
  refine lv_iload_n hx hb (dk DX11_quarrel 1 rfl) rfl (lv_at hl 2 rfl) ?_
  refine lv_icmp_eq (tgt := 33) hx hb (dk DX11_quarrel 2 rfl) (by decide) (fun hc => ?_) (fun hc => ?_)
  · have h := h.1 hc
    refine lv_iconst (v := 0) hx hb (dk DX11_quarrel 15 rfl) (by decide) ?_
    exact W.zret (v := 0) hx hb hr (by decide) (fun t ht hW => ⟨⟨_, _, rfl, h, by rw [ht]; exact hP, va_K.moved hW.alike X.2.2.2.2.2.2.1, hD⟩, hS.F ht⟩) hS.2.2 (dk DX11_quarrel 16 rfl)
  · have h := h.2 hc
    refine lv_aload_n hx hb (dk DX11_quarrel 3 rfl) rfl (lv_at hl 0 rfl) ?_
    refine gX_0 X hP 0 (by decide) rfl lk12 (dk DX11_quarrel 4 rfl) ?_
    refine gX_1 X hP 0 (by decide) rfl lk57 (dk DX11_quarrel 5 rfl) ?_
    refine lv_iload_n hx hb (dk DX11_quarrel 6 rfl) rfl (lv_at hl 1 rfl) ?_
    refine cXi (As := [.int a0]) (rest := []) X (m_X1_has_2 (l := l) (dC := dC) (dI := dI) (q := q) (cI := cI) (cT := cT) (en := en) (sz := _) a0 S h) (cwV 1 X.2.2.2.2.1 (gxV 598 40 41 42 35 rfl rfl rfl rfl rfl) rfl rfl rfl q_X1_has_2 ⟨Nat.le_of_ble_eq_true rfl, Nat.le_of_ble_eq_true rfl⟩) (rX_2 X hP) hP hD hS rfl hl.1 rfl (Nat.le_of_ble_eq_true rfl) (dk DX11_quarrel 7 rfl) (fun r2 S1 H locs h hP hD hS => ?_)
    refine lv_if_eq (tgt := 33) hx hb (dk DX11_quarrel 8 rfl) (by decide) (fun hc => ?_) (fun hc => ?_)
    · have h := h.1 hc
      refine lv_iconst (v := 0) hx hb (dk DX11_quarrel 15 rfl) (by decide) ?_
      exact W.zret (v := 0) hx hb hr (by decide) (fun t ht hW => ⟨⟨_, _, rfl, h, by rw [ht]; exact hP, va_K.moved hW.alike X.2.2.2.2.2.2.1, hD⟩, hS.F ht⟩) hS.2.2 (dk DX11_quarrel 16 rfl)
    · have h := h.2 hc
      refine lv_aload_n hx hb (dk DX11_quarrel 9 rfl) rfl (lv_at hl 0 rfl) ?_
      refine gX_0 X hP 0 (by decide) rfl lk12 (dk DX11_quarrel 10 rfl) ?_
      refine gX_1 X hP 0 (by decide) rfl lk57 (dk DX11_quarrel 11 rfl) ?_
      refine lv_iload_n hx hb (dk DX11_quarrel 12 rfl) rfl (lv_at hl 2 rfl) ?_
      refine cXi (As := [.int a1]) (rest := []) X (m_X1_has_2 (l := l) (dC := dC) (dI := dI) (q := q) (cI := cI) (cT := cT) (en := en) (sz := _) a1 S1 h) (cwV 1 X.2.2.2.2.1 (gxV 598 40 41 42 35 rfl rfl rfl rfl rfl) rfl rfl rfl q_X1_has_2 ⟨Nat.le_of_ble_eq_true rfl, Nat.le_of_ble_eq_true rfl⟩) (rX_2 X hP) hP hD hS rfl hl.1 rfl (Nat.le_of_ble_eq_true rfl) (dk DX11_quarrel 13 rfl) (fun r4 S3 H locs h hP hD hS => ?_)
      refine lv_if_ne (tgt := 35) hx hb (dk DX11_quarrel 14 rfl) (by decide) (fun hc => ?_) (fun hc => ?_)
      · have h := h.1 hc
        refine lv_aload_n hx hb (dk DX11_quarrel 17 rfl) rfl (lv_at hl 0 rfl) ?_
        refine gX_0 X hP 0 (by decide) rfl lk12 (dk DX11_quarrel 18 rfl) ?_
        refine gX_1 X hP 0 (by decide) rfl lk57 (dk DX11_quarrel 19 rfl) ?_
        refine lv_iload_n hx hb (dk DX11_quarrel 20 rfl) rfl (lv_at hl 1 rfl) ?_
        refine lv_iload_n hx hb (dk DX11_quarrel 21 rfl) rfl (lv_at hl 2 rfl) ?_
        refine lv_iload_n hx hb (dk DX11_quarrel 22 rfl) rfl (lv_at hl 3 rfl) ?_
        refine cXv (As := [.int a0, .int a1, .int a2]) (rest := []) X (m_X1_setFoes_2 (l := l) (dC := dC) (dI := dI) (q := q) (cI := cI) (cT := cT) (en := en) (sz := _) a0 a1 a2 S3 h) (cwV 3 X.2.2.2.2.1 (gxV 599 600 601 42 38 rfl rfl rfl rfl rfl) rfl rfl rfl q_X1_setFoes_2 ⟨Nat.le_of_ble_eq_true rfl, Nat.le_of_ble_eq_true rfl⟩) (rX_2 X hP) hP hD hS rfl hl.1 rfl (Nat.le_of_ble_eq_true rfl) (dk DX11_quarrel 23 rfl) (fun S5 H locs h hP hD hS => ?_)
        refine lv_iconst (v := 1) hx hb (dk DX11_quarrel 24 rfl) (by decide) ?_
        exact W.zret (v := 1) hx hb hr (by decide) (fun t ht hW => ⟨⟨_, _, rfl, h, by rw [ht]; exact hP, va_K.moved hW.alike X.2.2.2.2.2.2.1, hD⟩, hS.F ht⟩) hS.2.2 (dk DX11_quarrel 25 rfl)
      · have h := h.2 hc
        refine lv_iconst (v := 0) hx hb (dk DX11_quarrel 15 rfl) (by decide) ?_
        exact W.zret (v := 0) hx hb hr (by decide) (fun t ht hW => ⟨⟨_, _, rfl, h, by rw [ht]; exact hP, va_K.moved hW.alike X.2.2.2.2.2.2.1, hD⟩, hS.F ht⟩) hS.2.2 (dk DX11_quarrel 16 rfl)

def ww_X11_kind_0 : List Cond := .code yX11_kind cX11_kind 4 (some .int) :: (WdX ++ WsX)
theorem q_X11_kind_0 : yX11_kind.cls = RX11 ∧ yX11_kind.cls ≠ "java/lang/invoke/MethodHandle" ∧ yX11_kind.cls ≠ "java/lang/invoke/VarHandle" ∧ (parseMethodDescriptor yX11_kind.desc).map (fun d => d.parameters.length) = some 3 := by decide +kernel
def VC_X11_kind_0 (Post : Int32 → XS → Prop) (a0 : Int32) (a1 : Int32) (a2 : Int32) (S : XS) : Prop := VC_X11_within (fun r1 => ((r1 = 0 → Post (-1) S) ∧ (¬ r1 = 0 → VC_X11_within (fun r2 => ((r2 = 0 → Post (-1) S) ∧ (¬ r2 = 0 → VC_X11_within (fun r3 => ((¬ r3 = 0 → VC_X10_add_7 (fun r5 S4 => Post r5 S4) a0 a1 a2 S) ∧ (r3 = 0 → Post (-1) S))) a2 0 999))) a1 0 15))) a0 1 30
set_option maxHeartbeats 4000000 in
set_option maxRecDepth 100000 in
theorem m_X11_kind_0 {l : Launch} {dC : Nat → ClassId} {dI : Nat → Nat → Nat} {q : Nat → Nat} {cI cT : ClassId} {en : Nat → Nat} {sz : Nat} {Post : Int32 → XS → Prop} (a0 : Int32) (a1 : Int32) (a2 : Int32) (S : XS) (h : VC_X11_kind_0 Post a0 a1 a2 S) : Met l yX11_kind ww_X11_kind_0 ({ frames := 1, cells := 0, slots := 0, locals := 23 } : Room) (va_Pc [.ref (q 0), .int a0, .int a1, .int a2] (preX dC dI q cI cT en S sz)) (va_Qi Post (atX dC dI q cI cT (va_A (wX q cI cT S) sz)) (va_A (wX q cI cT S) sz)) 0 0 (va_A (wX q cI cT S) sz) := by
  refine oX (cc := cX11_kind) (maxL := 4) (ret := (some .int)) (Qc := fun A => va_Qi Post (atX dC dI q cI cT A) A) (own := RX11) (by decide) rfl (fun w h => List.mem_cons_of_mem _ (List.mem_append_right _ h)) rfl (Nat.le_of_ble_eq_true rfl) (fun p e s m below meth c A ls X hr hlocks hP hD hS hl => ?_)
  have hx := X.1
  have hb := X.2.1
  have hl : lv_has ls 4 [(0, .ref (q 0)), (1, .int a0), (2, .int a1), (3, .int a2)] := hl
  have lk12 := X.2.2.2.2.1 (.fieldLink RX11 12 "BreathOnLoan" "now" "LBreathOnLoan$State;") (inX 568 rfl)
  have lk75 := X.2.2.2.2.1 (.fieldLink RX11 75 "BreathOnLoan$State" "wares" "LBreathOnLoan$Wares;") (inX 603 rfl)
  dsimp only [VC_X11_kind_0] at h
  refine lv_iload_n hx hb (dk DX11_kind 0 rfl) rfl (lv_at hl 1 rfl) ?_
  refine lv_iconst (v := 1) hx hb (dk DX11_kind 1 rfl) (by decide) ?_
  refine lv_bipush (v := 30) hx hb (dk DX11_kind 2 rfl) (by decide) ?_
  refine cSi (As := [.int a0, .int 1, .int 30]) (rest := []) ⟨X.1, X.2.1, X.2.2.1, X.2.2.2.1, X.2.2.2.2.1⟩ (m_X11_within (l := l) a0 1 30 h) (va_cwS 3 X.2.2.2.2.1 (gxS 593 327 16 324 rfl rfl rfl rfl) rfl rfl rfl q_X11_within ⟨Nat.le_of_ble_eq_true rfl, Nat.le_of_ble_eq_true rfl⟩) rfl hl.1 rfl (Nat.le_of_ble_eq_true rfl) (dk DX11_kind 3 rfl) (fun r1 h => ?_)
  refine lv_if_eq (tgt := 31) hx hb (dk DX11_kind 4 rfl) (by decide) (fun hc => ?_) (fun hc => ?_)
  · have h := h.1 hc
    refine lv_iconst (v := (-1)) hx hb (dk DX11_kind 15 rfl) (by decide) ?_
    exact W.iret (v := (-1)) hx hb hr (fun t ht hW => ⟨⟨_, _, rfl, h, by rw [ht]; exact hP, va_K.moved hW.alike X.2.2.2.2.2.2.1, hD⟩, hS.F ht⟩) hS.2.2 (dk DX11_kind 16 rfl)
  · have h := h.2 hc
    refine lv_iload_n hx hb (dk DX11_kind 5 rfl) rfl (lv_at hl 2 rfl) ?_
    refine lv_iconst (v := 0) hx hb (dk DX11_kind 6 rfl) (by decide) ?_
    refine lv_bipush (v := 15) hx hb (dk DX11_kind 7 rfl) (by decide) ?_
    refine cSi (As := [.int a1, .int 0, .int 15]) (rest := []) ⟨X.1, X.2.1, X.2.2.1, X.2.2.2.1, X.2.2.2.2.1⟩ (m_X11_within (l := l) a1 0 15 h) (va_cwS 3 X.2.2.2.2.1 (gxS 593 327 16 324 rfl rfl rfl rfl) rfl rfl rfl q_X11_within ⟨Nat.le_of_ble_eq_true rfl, Nat.le_of_ble_eq_true rfl⟩) rfl hl.1 rfl (Nat.le_of_ble_eq_true rfl) (dk DX11_kind 8 rfl) (fun r2 h => ?_)
    refine lv_if_eq (tgt := 31) hx hb (dk DX11_kind 9 rfl) (by decide) (fun hc => ?_) (fun hc => ?_)
    · have h := h.1 hc
      refine lv_iconst (v := (-1)) hx hb (dk DX11_kind 15 rfl) (by decide) ?_
      exact W.iret (v := (-1)) hx hb hr (fun t ht hW => ⟨⟨_, _, rfl, h, by rw [ht]; exact hP, va_K.moved hW.alike X.2.2.2.2.2.2.1, hD⟩, hS.F ht⟩) hS.2.2 (dk DX11_kind 16 rfl)
    · have h := h.2 hc
      refine lv_iload_n hx hb (dk DX11_kind 10 rfl) rfl (lv_at hl 3 rfl) ?_
      refine lv_iconst (v := 0) hx hb (dk DX11_kind 11 rfl) (by decide) ?_
      refine lv_sipush (v := 999) hx hb (dk DX11_kind 12 rfl) (by decide) ?_
      refine cSi (As := [.int a2, .int 0, .int 999]) (rest := []) ⟨X.1, X.2.1, X.2.2.1, X.2.2.2.1, X.2.2.2.2.1⟩ (m_X11_within (l := l) a2 0 999 h) (va_cwS 3 X.2.2.2.2.1 (gxS 593 327 16 324 rfl rfl rfl rfl) rfl rfl rfl q_X11_within ⟨Nat.le_of_ble_eq_true rfl, Nat.le_of_ble_eq_true rfl⟩) rfl hl.1 rfl (Nat.le_of_ble_eq_true rfl) (dk DX11_kind 13 rfl) (fun r3 h => ?_)
      refine lv_if_ne (tgt := 33) hx hb (dk DX11_kind 14 rfl) (by decide) (fun hc => ?_) (fun hc => ?_)
      · have h := h.1 hc
        refine lv_aload_n hx hb (dk DX11_kind 17 rfl) rfl (lv_at hl 0 rfl) ?_
        refine gX_0 X hP 0 (by decide) rfl lk12 (dk DX11_kind 18 rfl) ?_
        refine gX_1 X hP 1 (by decide) rfl lk75 (dk DX11_kind 19 rfl) ?_
        refine lv_iload_n hx hb (dk DX11_kind 20 rfl) rfl (lv_at hl 1 rfl) ?_
        refine lv_iload_n hx hb (dk DX11_kind 21 rfl) rfl (lv_at hl 2 rfl) ?_
        refine lv_iload_n hx hb (dk DX11_kind 22 rfl) rfl (lv_at hl 3 rfl) ?_
        refine cXi (As := [.int a0, .int a1, .int a2]) (rest := []) X (m_X10_add_7 (l := l) (dC := dC) (dI := dI) (q := q) (cI := cI) (cT := cT) (en := en) (sz := _) a0 a1 a2 S h) (cwV 3 X.2.2.2.2.1 (gxV 604 605 606 150 564 rfl rfl rfl rfl rfl) rfl rfl rfl q_X10_add_7 ⟨Nat.le_of_ble_eq_true rfl, Nat.le_of_ble_eq_true rfl⟩) (rX_7 X hP) hP hD hS rfl hl.1 rfl (Nat.le_of_ble_eq_true rfl) (dk DX11_kind 23 rfl) (fun r5 S4 H locs h hP hD hS => ?_)
        exact W.iret (v := r5) hx hb hr (fun t ht hW => ⟨⟨_, _, rfl, h, by rw [ht]; exact hP, va_K.moved hW.alike X.2.2.2.2.2.2.1, hD⟩, hS.F ht⟩) hS.2.2 (dk DX11_kind 24 rfl)
      · have h := h.2 hc
        refine lv_iconst (v := (-1)) hx hb (dk DX11_kind 15 rfl) (by decide) ?_
        exact W.iret (v := (-1)) hx hb hr (fun t ht hW => ⟨⟨_, _, rfl, h, by rw [ht]; exact hP, va_K.moved hW.alike X.2.2.2.2.2.2.1, hD⟩, hS.F ht⟩) hS.2.2 (dk DX11_kind 16 rfl)

def ww_X11_feed_0 : List Cond := .code yX11_feed cX11_feed 6 (some .int) :: (WdX ++ WsX)
theorem q_X11_feed_0 : yX11_feed.cls = RX11 ∧ yX11_feed.cls ≠ "java/lang/invoke/MethodHandle" ∧ yX11_feed.cls ≠ "java/lang/invoke/VarHandle" ∧ (parseMethodDescriptor yX11_feed.desc).map (fun d => d.parameters.length) = some 5 := by decide +kernel
def VC_X11_feed_0 (Post : Int32 → XS → Prop) (a0 : Int32) (a1 : Int32) (a2 : Int32) (a3 : Int32) (a4 : Int32) (S : XS) : Prop := ((((S.1 1313) + 20) ≤ 300 → VC_X8_addFour_41 (fun S1 => VC_X8_addFour_41 (fun S2 => VC_X8_addFour_41 (fun S3 => VC_X8_addFour_41 (fun S4 => VC_X8_addFour_41 (fun S5 => Post (S5.1 1313) S5) a4 S4) a3 S3) a2 S2) a1 S1) a0 S) ∧ (¬ ((S.1 1313) + 20) ≤ 300 → Post (-1) S))
set_option maxHeartbeats 4000000 in
set_option maxRecDepth 100000 in
theorem m_X11_feed_0 {l : Launch} {dC : Nat → ClassId} {dI : Nat → Nat → Nat} {q : Nat → Nat} {cI cT : ClassId} {en : Nat → Nat} {sz : Nat} {Post : Int32 → XS → Prop} (a0 : Int32) (a1 : Int32) (a2 : Int32) (a3 : Int32) (a4 : Int32) (S : XS) (h : VC_X11_feed_0 Post a0 a1 a2 a3 a4 S) : Met l yX11_feed ww_X11_feed_0 ({ frames := 1, cells := 0, slots := 0, locals := 22 } : Room) (va_Pc [.ref (q 0), .int a0, .int a1, .int a2, .int a3, .int a4] (preX dC dI q cI cT en S sz)) (va_Qi Post (atX dC dI q cI cT (va_A (wX q cI cT S) sz)) (va_A (wX q cI cT S) sz)) 0 0 (va_A (wX q cI cT S) sz) := by
  refine oX (cc := cX11_feed) (maxL := 6) (ret := (some .int)) (Qc := fun A => va_Qi Post (atX dC dI q cI cT A) A) (own := RX11) (by decide) rfl (fun w h => List.mem_cons_of_mem _ (List.mem_append_right _ h)) rfl (Nat.le_of_ble_eq_true rfl) (fun p e s m below meth c A ls X hr hlocks hP hD hS hl => ?_)
  have hx := X.1
  have hb := X.2.1
  have hl : lv_has ls 6 [(0, .ref (q 0)), (1, .int a0), (2, .int a1), (3, .int a2), (4, .int a3), (5, .int a4)] := hl
  have lk22 := X.2.2.2.2.1 (.fieldLink RX11 22 "BreathOnLoan" "tape" "LBreathOnLoan$Tape;") (inX 573 rfl)
  have lk84 := X.2.2.2.2.1 (.fieldLink RX11 84 "BreathOnLoan$Tape" "length" "I") (inX 608 rfl)
  dsimp only [VC_X11_feed_0] at h
  refine lv_aload_n hx hb (dk DX11_feed 0 rfl) rfl (lv_at hl 0 rfl) ?_
  refine gX_0 X hP 2 (by decide) rfl lk22 (dk DX11_feed 1 rfl) ?_
  refine gX_41 X hP 1 (by decide) rfl lk84 (dk DX11_feed 2 rfl) ?_
  refine lv_bipush (v := 20) hx hb (dk DX11_feed 3 rfl) (by decide) ?_
  refine lv_iadd hx hb (dk DX11_feed 4 rfl) ?_
  refine lv_sipush (v := 300) hx hb (dk DX11_feed 5 rfl) (by decide) ?_
  refine lv_icmp_le (tgt := 18) hx hb (dk DX11_feed 6 rfl) (by decide) (fun hc => ?_) (fun hc => ?_)
  · have h := h.1 hc
    refine lv_aload_n hx hb (dk DX11_feed 9 rfl) rfl (lv_at hl 0 rfl) ?_
    refine gX_0 X hP 2 (by decide) rfl lk22 (dk DX11_feed 10 rfl) ?_
    refine lv_iload_n hx hb (dk DX11_feed 11 rfl) rfl (lv_at hl 1 rfl) ?_
    refine cXv (As := [.int a0]) (rest := []) X (m_X8_addFour_41 (l := l) (dC := dC) (dI := dI) (q := q) (cI := cI) (cT := cT) (en := en) (sz := _) a0 S h) (cwV 1 X.2.2.2.2.1 (gxV 609 610 611 572 560 rfl rfl rfl rfl rfl) rfl rfl rfl q_X8_addFour_41 ⟨Nat.le_of_ble_eq_true rfl, Nat.le_of_ble_eq_true rfl⟩) (rX_41 X hP) hP hD hS rfl hl.1 rfl (Nat.le_of_ble_eq_true rfl) (dk DX11_feed 12 rfl) (fun S1 H locs h hP hD hS => ?_)
    refine lv_aload_n hx hb (dk DX11_feed 13 rfl) rfl (lv_at hl 0 rfl) ?_
    refine gX_0 X hP 2 (by decide) rfl lk22 (dk DX11_feed 14 rfl) ?_
    refine lv_iload_n hx hb (dk DX11_feed 15 rfl) rfl (lv_at hl 2 rfl) ?_
    refine cXv (As := [.int a1]) (rest := []) X (m_X8_addFour_41 (l := l) (dC := dC) (dI := dI) (q := q) (cI := cI) (cT := cT) (en := en) (sz := _) a1 S1 h) (cwV 1 X.2.2.2.2.1 (gxV 609 610 611 572 560 rfl rfl rfl rfl rfl) rfl rfl rfl q_X8_addFour_41 ⟨Nat.le_of_ble_eq_true rfl, Nat.le_of_ble_eq_true rfl⟩) (rX_41 X hP) hP hD hS rfl hl.1 rfl (Nat.le_of_ble_eq_true rfl) (dk DX11_feed 16 rfl) (fun S2 H locs h hP hD hS => ?_)
    refine lv_aload_n hx hb (dk DX11_feed 17 rfl) rfl (lv_at hl 0 rfl) ?_
    refine gX_0 X hP 2 (by decide) rfl lk22 (dk DX11_feed 18 rfl) ?_
    refine lv_iload_n hx hb (dk DX11_feed 19 rfl) rfl (lv_at hl 3 rfl) ?_
    refine cXv (As := [.int a2]) (rest := []) X (m_X8_addFour_41 (l := l) (dC := dC) (dI := dI) (q := q) (cI := cI) (cT := cT) (en := en) (sz := _) a2 S2 h) (cwV 1 X.2.2.2.2.1 (gxV 609 610 611 572 560 rfl rfl rfl rfl rfl) rfl rfl rfl q_X8_addFour_41 ⟨Nat.le_of_ble_eq_true rfl, Nat.le_of_ble_eq_true rfl⟩) (rX_41 X hP) hP hD hS rfl hl.1 rfl (Nat.le_of_ble_eq_true rfl) (dk DX11_feed 20 rfl) (fun S3 H locs h hP hD hS => ?_)
    refine lv_aload_n hx hb (dk DX11_feed 21 rfl) rfl (lv_at hl 0 rfl) ?_
    refine gX_0 X hP 2 (by decide) rfl lk22 (dk DX11_feed 22 rfl) ?_
    refine lv_iload hx hb (dk DX11_feed 23 rfl) (lv_at hl 4 rfl) ?_
    refine cXv (As := [.int a3]) (rest := []) X (m_X8_addFour_41 (l := l) (dC := dC) (dI := dI) (q := q) (cI := cI) (cT := cT) (en := en) (sz := _) a3 S3 h) (cwV 1 X.2.2.2.2.1 (gxV 609 610 611 572 560 rfl rfl rfl rfl rfl) rfl rfl rfl q_X8_addFour_41 ⟨Nat.le_of_ble_eq_true rfl, Nat.le_of_ble_eq_true rfl⟩) (rX_41 X hP) hP hD hS rfl hl.1 rfl (Nat.le_of_ble_eq_true rfl) (dk DX11_feed 24 rfl) (fun S4 H locs h hP hD hS => ?_)
    refine lv_aload_n hx hb (dk DX11_feed 25 rfl) rfl (lv_at hl 0 rfl) ?_
    refine gX_0 X hP 2 (by decide) rfl lk22 (dk DX11_feed 26 rfl) ?_
    refine lv_iload hx hb (dk DX11_feed 27 rfl) (lv_at hl 5 rfl) ?_
    refine cXv (As := [.int a4]) (rest := []) X (m_X8_addFour_41 (l := l) (dC := dC) (dI := dI) (q := q) (cI := cI) (cT := cT) (en := en) (sz := _) a4 S4 h) (cwV 1 X.2.2.2.2.1 (gxV 609 610 611 572 560 rfl rfl rfl rfl rfl) rfl rfl rfl q_X8_addFour_41 ⟨Nat.le_of_ble_eq_true rfl, Nat.le_of_ble_eq_true rfl⟩) (rX_41 X hP) hP hD hS rfl hl.1 rfl (Nat.le_of_ble_eq_true rfl) (dk DX11_feed 28 rfl) (fun S5 H locs h hP hD hS => ?_)
    refine lv_aload_n hx hb (dk DX11_feed 29 rfl) rfl (lv_at hl 0 rfl) ?_
    refine gX_0 X hP 2 (by decide) rfl lk22 (dk DX11_feed 30 rfl) ?_
    refine gX_41 X hP 1 (by decide) rfl lk84 (dk DX11_feed 31 rfl) ?_
    exact W.iret (v := (S5.1 1313)) hx hb hr (fun t ht hW => ⟨⟨_, _, rfl, h, by rw [ht]; exact hP, va_K.moved hW.alike X.2.2.2.2.2.2.1, hD⟩, hS.F ht⟩) hS.2.2 (dk DX11_feed 32 rfl)
  · have h := h.2 hc
    refine lv_iconst (v := (-1)) hx hb (dk DX11_feed 7 rfl) (by decide) ?_
    exact W.iret (v := (-1)) hx hb hr (fun t ht hW => ⟨⟨_, _, rfl, h, by rw [ht]; exact hP, va_K.moved hW.alike X.2.2.2.2.2.2.1, hD⟩, hS.F ht⟩) hS.2.2 (dk DX11_feed 8 rfl)

def ww_X11_end_0 : List Cond := .code yX11_end cX11_end 2 (some .int) :: (WdX ++ WsX)
theorem q_X11_end_0 : yX11_end.cls = RX11 ∧ yX11_end.cls ≠ "java/lang/invoke/MethodHandle" ∧ yX11_end.cls ≠ "java/lang/invoke/VarHandle" ∧ (parseMethodDescriptor yX11_end.desc).map (fun d => d.parameters.length) = some 1 := by decide +kernel
def VC_X11_end_0 (Post : Int32 → XS → Prop) (a0 : Int32) (S : XS) : Prop := VC_X11_within (fun r1 => ((¬ r1 = 0 → ∀ S2 : XS, S2 = xI S 1313 a0 → Post a0 S2) ∧ (r1 = 0 → Post (-1) S))) a0 0 (S.1 1313)
set_option maxHeartbeats 4000000 in
set_option maxRecDepth 100000 in
theorem m_X11_end_0 {l : Launch} {dC : Nat → ClassId} {dI : Nat → Nat → Nat} {q : Nat → Nat} {cI cT : ClassId} {en : Nat → Nat} {sz : Nat} {Post : Int32 → XS → Prop} (a0 : Int32) (S : XS) (h : VC_X11_end_0 Post a0 S) : Met l yX11_end ww_X11_end_0 ({ frames := 1, cells := 0, slots := 0, locals := 22 } : Room) (va_Pc [.ref (q 0), .int a0] (preX dC dI q cI cT en S sz)) (va_Qi Post (atX dC dI q cI cT (va_A (wX q cI cT S) sz)) (va_A (wX q cI cT S) sz)) 0 0 (va_A (wX q cI cT S) sz) := by
  refine oX (cc := cX11_end) (maxL := 2) (ret := (some .int)) (Qc := fun A => va_Qi Post (atX dC dI q cI cT A) A) (own := RX11) (by decide) rfl (fun w h => List.mem_cons_of_mem _ (List.mem_append_right _ h)) rfl (Nat.le_of_ble_eq_true rfl) (fun p e s m below meth c A ls X hr hlocks hP hD hS hl => ?_)
  have hx := X.1
  have hb := X.2.1
  have hl : lv_has ls 2 [(0, .ref (q 0)), (1, .int a0)] := hl
  have lk22 := X.2.2.2.2.1 (.fieldLink RX11 22 "BreathOnLoan" "tape" "LBreathOnLoan$Tape;") (inX 573 rfl)
  have lk84 := X.2.2.2.2.1 (.fieldLink RX11 84 "BreathOnLoan$Tape" "length" "I") (inX 608 rfl)
  dsimp only [VC_X11_end_0] at h
  refine lv_iload_n hx hb (dk DX11_end 0 rfl) rfl (lv_at hl 1 rfl) ?_
  refine lv_iconst (v := 0) hx hb (dk DX11_end 1 rfl) (by decide) ?_
  refine lv_aload_n hx hb (dk DX11_end 2 rfl) rfl (lv_at hl 0 rfl) ?_
  refine gX_0 X hP 2 (by decide) rfl lk22 (dk DX11_end 3 rfl) ?_
  refine gX_41 X hP 1 (by decide) rfl lk84 (dk DX11_end 4 rfl) ?_
  refine cSi (As := [.int a0, .int 0, .int (S.1 1313)]) (rest := []) ⟨X.1, X.2.1, X.2.2.1, X.2.2.2.1, X.2.2.2.2.1⟩ (m_X11_within (l := l) a0 0 (S.1 1313) h) (va_cwS 3 X.2.2.2.2.1 (gxS 593 327 16 324 rfl rfl rfl rfl) rfl rfl rfl q_X11_within ⟨Nat.le_of_ble_eq_true rfl, Nat.le_of_ble_eq_true rfl⟩) rfl hl.1 rfl (Nat.le_of_ble_eq_true rfl) (dk DX11_end 5 rfl) (fun r1 h => ?_)
  refine lv_if_ne (tgt := 17) hx hb (dk DX11_end 6 rfl) (by decide) (fun hc => ?_) (fun hc => ?_)
  · have h := h.1 hc
    refine lv_aload_n hx hb (dk DX11_end 9 rfl) rfl (lv_at hl 0 rfl) ?_
    refine gX_0 X hP 2 (by decide) rfl lk22 (dk DX11_end 10 rfl) ?_
    refine lv_iload_n hx hb (dk DX11_end 11 rfl) rfl (lv_at hl 1 rfl) ?_
    refine pX_41_1 X hP hD hS lk84 (dk DX11_end 12 rfl) (fun S2 eS2 H locs hP hD hS => ?_)
    have h := h S2 eS2
    refine lv_iload_n hx hb (dk DX11_end 13 rfl) rfl (lv_at hl 1 rfl) ?_
    exact W.iret (v := a0) hx hb hr (fun t ht hW => ⟨⟨_, _, rfl, h, by rw [ht]; exact hP, va_K.moved hW.alike X.2.2.2.2.2.2.1, hD⟩, hS.F ht⟩) hS.2.2 (dk DX11_end 14 rfl)
  · have h := h.2 hc
    refine lv_iconst (v := (-1)) hx hb (dk DX11_end 7 rfl) (by decide) ?_
    exact W.iret (v := (-1)) hx hb hr (fun t ht hW => ⟨⟨_, _, rfl, h, by rw [ht]; exact hP, va_K.moved hW.alike X.2.2.2.2.2.2.1, hD⟩, hS.F ht⟩) hS.2.2 (dk DX11_end 8 rfl)

def ww_X11_fault_0 : List Cond := .code yX11_fault cX11_fault 2 (some .int) :: (WdX ++ WsX)
theorem q_X11_fault_0 : yX11_fault.cls = RX11 ∧ yX11_fault.cls ≠ "java/lang/invoke/MethodHandle" ∧ yX11_fault.cls ≠ "java/lang/invoke/VarHandle" ∧ (parseMethodDescriptor yX11_fault.desc).map (fun d => d.parameters.length) = some 1 := by decide +kernel
def VC_X11_fault_0 (Post : Int32 → XS → Prop) (a0 : Int32) (S : XS) : Prop := ((¬ (S.1 1376) = 0 → ((a0 = 0 → Post (S.1 1377) S) ∧ (a0 = 1 → Post (S.1 1378) S) ∧ (¬ a0 = 0 → ¬ a0 = 1 → Post (-1) S))) ∧ ((S.1 1376) = 0 → Post (-1) S))
set_option maxHeartbeats 4000000 in
set_option maxRecDepth 100000 in
theorem m_X11_fault_0 {l : Launch} {dC : Nat → ClassId} {dI : Nat → Nat → Nat} {q : Nat → Nat} {cI cT : ClassId} {en : Nat → Nat} {sz : Nat} {Post : Int32 → XS → Prop} (a0 : Int32) (S : XS) (h : VC_X11_fault_0 Post a0 S) : Met l yX11_fault ww_X11_fault_0 ({ frames := 0, cells := 0, slots := 0, locals := 0 } : Room) (va_Pc [.ref (q 0), .int a0] (preX dC dI q cI cT en S sz)) (va_Qi Post (atX dC dI q cI cT (va_A (wX q cI cT S) sz)) (va_A (wX q cI cT S) sz)) 0 0 (va_A (wX q cI cT S) sz) := by
  refine oX (cc := cX11_fault) (maxL := 2) (ret := (some .int)) (Qc := fun A => va_Qi Post (atX dC dI q cI cT A) A) (own := RX11) (by decide) rfl (fun w h => List.mem_cons_of_mem _ (List.mem_append_right _ h)) rfl (Nat.le_of_ble_eq_true rfl) (fun p e s m below meth c A ls X hr hlocks hP hD hS hl => ?_)
  have hx := X.1
  have hb := X.2.1
  have hl : lv_has ls 2 [(0, .ref (q 0)), (1, .int a0)] := hl
  have lk31 := X.2.2.2.2.1 (.fieldLink RX11 31 "BreathOnLoan" "parser" "LBreathOnLoan$Parser;") (inX 576 rfl)
  have lk103 := X.2.2.2.2.1 (.fieldLink RX11 103 "BreathOnLoan$Parser" "hasRead" "Z") (inX 622 rfl)
  have lk107 := X.2.2.2.2.1 (.fieldLink RX11 107 "BreathOnLoan$Parser" "faultNumber" "I") (inX 623 rfl)
  have lk110 := X.2.2.2.2.1 (.fieldLink RX11 110 "BreathOnLoan$Parser" "faultPlace" "I") (inX 624 rfl)
  dsimp only [VC_X11_fault_0] at h
  refine lv_aload_n hx hb (dk DX11_fault 0 rfl) rfl (lv_at hl 0 rfl) ?_
  refine gX_0 X hP 3 (by decide) rfl lk31 (dk DX11_fault 1 rfl) ?_
  refine gX_43 X hP 0 (by decide) rfl lk103 (dk DX11_fault 2 rfl) ?_
  refine lv_if_ne (tgt := 12) hx hb (dk DX11_fault 3 rfl) (by decide) (fun hc => ?_) (fun hc => ?_)
  · have h := h.1 hc
    refine lv_iload_n hx hb (dk DX11_fault 6 rfl) rfl (lv_at hl 1 rfl) ?_
    by_cases hc0 : a0 = 0
    · have h := h.1 hc0
      refine lv_lookup (off := 27) (tgt := 40) hx hb (dk DX11_fault 7 rfl) (by decide) (by rw [hc0]; decide) (by decide) ?_
      refine lv_aload_n hx hb (dk DX11_fault 8 rfl) rfl (lv_at hl 0 rfl) ?_
      refine gX_0 X hP 3 (by decide) rfl lk31 (dk DX11_fault 9 rfl) ?_
      refine gX_43 X hP 1 (by decide) rfl lk107 (dk DX11_fault 10 rfl) ?_
      exact W.iret (v := (S.1 1377)) hx hb hr (fun t ht hW => ⟨⟨_, _, rfl, h, by rw [ht]; exact hP, va_K.moved hW.alike X.2.2.2.2.2.2.1, hD⟩, hS.F ht⟩) hS.2.2 (dk DX11_fault 11 rfl)
    have h := h.2
    by_cases hc1 : a0 = 1
    · have h := h.1 hc1
      refine lv_lookup (off := 35) (tgt := 48) hx hb (dk DX11_fault 7 rfl) (by decide) (by rw [hc1]; decide) (by decide) ?_
      refine lv_aload_n hx hb (dk DX11_fault 12 rfl) rfl (lv_at hl 0 rfl) ?_
      refine gX_0 X hP 3 (by decide) rfl lk31 (dk DX11_fault 13 rfl) ?_
      refine gX_43 X hP 2 (by decide) rfl lk110 (dk DX11_fault 14 rfl) ?_
      exact W.iret (v := (S.1 1378)) hx hb hr (fun t ht hW => ⟨⟨_, _, rfl, h, by rw [ht]; exact hP, va_K.moved hW.alike X.2.2.2.2.2.2.1, hD⟩, hS.F ht⟩) hS.2.2 (dk DX11_fault 15 rfl)
    have h := h.2
    have h := h hc0 hc1
    refine lv_lookup (off := 43) (tgt := 56) hx hb (dk DX11_fault 7 rfl) (by decide) (by show Op.lookupswitch.offset [(0, 27), (1, 35)] 43 _ = 43; rw [lv_osw hc0 (by decide), lv_osw hc1 (by decide)]; rfl) (by decide) ?_
    refine lv_iconst (v := (-1)) hx hb (dk DX11_fault 16 rfl) (by decide) ?_
    exact W.iret (v := (-1)) hx hb hr (fun t ht hW => ⟨⟨_, _, rfl, h, by rw [ht]; exact hP, va_K.moved hW.alike X.2.2.2.2.2.2.1, hD⟩, hS.F ht⟩) hS.2.2 (dk DX11_fault 17 rfl)
  · have h := h.2 hc
    refine lv_iconst (v := (-1)) hx hb (dk DX11_fault 4 rfl) (by decide) ?_
    exact W.iret (v := (-1)) hx hb hr (fun t ht hW => ⟨⟨_, _, rfl, h, by rw [ht]; exact hP, va_K.moved hW.alike X.2.2.2.2.2.2.1, hD⟩, hS.F ht⟩) hS.2.2 (dk DX11_fault 5 rfl)

def ww_X11_startPiece_0 : List Cond := .code yX11_startPiece cX11_startPiece 4 (some .int) :: (WdX ++ WsX)
theorem q_X11_startPiece_0 : yX11_startPiece.cls = RX11 ∧ yX11_startPiece.cls ≠ "java/lang/invoke/MethodHandle" ∧ yX11_startPiece.cls ≠ "java/lang/invoke/VarHandle" ∧ (parseMethodDescriptor yX11_startPiece.desc).map (fun d => d.parameters.length) = some 1 := by decide +kernel
def VC_X11_startPiece_0 (Post : Int32 → XS → Prop) (a0 : Int32) (S : XS) : Prop := VC_X10_has_7 (fun r2 S1 => ((r2 = 0 → Post (-1) S1) ∧ (¬ r2 = 0 → (((S1.1 353) < 10 → ∀ v3 : Int32, v3 = (S1.1 353) → vp_in v3 10 ∧ ∀ S4 : XS, S4 = xF S1 12 (upd (S1.2.1 12) v3.toNatClampNeg a0) → vp_in v3 10 ∧ ∀ S5 : XS, S5 = xF S4 13 (upd (S4.2.1 13) v3.toNatClampNeg 0) → ∀ v6 : Int32, v6 = (S5.1 353) + 1 → ∀ S7 : XS, S7 = xI S5 353 v6 → VC_X6_push_15 (fun r9 S8 => Post v3 S8) 0 v3 S7) ∧ (¬ (S1.1 353) < 10 → Post (-1) S1))))) a0 S
set_option maxHeartbeats 4000000 in
set_option maxRecDepth 100000 in
theorem m_X11_startPiece_0 {l : Launch} {dC : Nat → ClassId} {dI : Nat → Nat → Nat} {q : Nat → Nat} {cI cT : ClassId} {en : Nat → Nat} {sz : Nat} {Post : Int32 → XS → Prop} (a0 : Int32) (S : XS) (h : VC_X11_startPiece_0 Post a0 S) : Met l yX11_startPiece ww_X11_startPiece_0 ({ frames := 3, cells := 0, slots := 0, locals := 69 } : Room) (va_Pc [.ref (q 0), .int a0] (preX dC dI q cI cT en S sz)) (va_Qi Post (atX dC dI q cI cT (va_A (wX q cI cT S) sz)) (va_A (wX q cI cT S) sz)) 0 0 (va_A (wX q cI cT S) sz) := by
  refine oX (cc := cX11_startPiece) (maxL := 4) (ret := (some .int)) (Qc := fun A => va_Qi Post (atX dC dI q cI cT A) A) (own := RX11) (by decide) rfl (fun w h => List.mem_cons_of_mem _ (List.mem_append_right _ h)) rfl (Nat.le_of_ble_eq_true rfl) (fun p e s m below meth c A ls X hr hlocks hP hD hS hl => ?_)
  have hx := X.1
  have hb := X.2.1
  have hl : lv_has ls 4 [(0, .ref (q 0)), (1, .int a0)] := hl
  have lk12 := X.2.2.2.2.1 (.fieldLink RX11 12 "BreathOnLoan" "now" "LBreathOnLoan$State;") (inX 568 rfl)
  have lk141 := X.2.2.2.2.1 (.fieldLink RX11 141 "BreathOnLoan$State" "bench" "LBreathOnLoan$Bench;") (inX 632 rfl)
  have lk75 := X.2.2.2.2.1 (.fieldLink RX11 75 "BreathOnLoan$State" "wares" "LBreathOnLoan$Wares;") (inX 603 rfl)
  have lk210 := X.2.2.2.2.1 (.fieldLink RX11 210 "BreathOnLoan$Bench" "pieces" "I") (inX 633 rfl)
  have lk201 := X.2.2.2.2.1 (.fieldLink RX11 201 "BreathOnLoan$Bench" "kindOf" "[I") (inX 634 rfl)
  have lk145 := X.2.2.2.2.1 (.fieldLink RX11 145 "BreathOnLoan$Bench" "sold" "[I") (inX 635 rfl)
  have lk167 := X.2.2.2.2.1 (.fieldLink RX11 167 "BreathOnLoan$State" "steps" "LBreathOnLoan$Steps;") (inX 636 rfl)
  dsimp only [VC_X11_startPiece_0] at h
  refine lv_aload_n hx hb (dk DX11_startPiece 0 rfl) rfl (lv_at hl 0 rfl) ?_
  refine gX_0 X hP 0 (by decide) rfl lk12 (dk DX11_startPiece 1 rfl) ?_
  refine gX_1 X hP 2 (by decide) rfl lk141 (dk DX11_startPiece 2 rfl) ?_
  refine lv_astore_n (lv' := [(2, .ref (q 11)), (0, .ref (q 0)), (1, .int a0)]) hx hb (dk DX11_startPiece 3 rfl) rfl hl (by decide) rfl (fun ls hl => ?_)
  refine lv_aload_n hx hb (dk DX11_startPiece 4 rfl) rfl (lv_at hl 1 rfl) ?_
  refine gX_0 X hP 0 (by decide) rfl lk12 (dk DX11_startPiece 5 rfl) ?_
  refine gX_1 X hP 1 (by decide) rfl lk75 (dk DX11_startPiece 6 rfl) ?_
  refine lv_iload_n hx hb (dk DX11_startPiece 7 rfl) rfl (lv_at hl 2 rfl) ?_
  refine cXi (As := [.int a0]) (rest := []) X (m_X10_has_7 (l := l) (dC := dC) (dI := dI) (q := q) (cI := cI) (cT := cT) (en := en) (sz := _) a0 S h) (cwV 1 X.2.2.2.2.1 (gxV 637 148 149 150 135 rfl rfl rfl rfl rfl) rfl rfl rfl q_X10_has_7 ⟨Nat.le_of_ble_eq_true rfl, Nat.le_of_ble_eq_true rfl⟩) (rX_7 X hP) hP hD hS rfl hl.1 rfl (Nat.le_of_ble_eq_true rfl) (dk DX11_startPiece 8 rfl) (fun r2 S1 H locs h hP hD hS => ?_)
  refine lv_if_eq (tgt := 31) hx hb (dk DX11_startPiece 9 rfl) (by decide) (fun hc => ?_) (fun hc => ?_)
  · have h := h.1 hc
    refine lv_iconst (v := (-1)) hx hb (dk DX11_startPiece 14 rfl) (by decide) ?_
    exact W.iret (v := (-1)) hx hb hr (fun t ht hW => ⟨⟨_, _, rfl, h, by rw [ht]; exact hP, va_K.moved hW.alike X.2.2.2.2.2.2.1, hD⟩, hS.F ht⟩) hS.2.2 (dk DX11_startPiece 15 rfl)
  · have h := h.2 hc
    refine lv_aload_n hx hb (dk DX11_startPiece 10 rfl) rfl (lv_at hl 0 rfl) ?_
    refine gX_11 X hP 1 (by decide) rfl lk210 (dk DX11_startPiece 11 rfl) ?_
    refine lv_bipush (v := 10) hx hb (dk DX11_startPiece 12 rfl) (by decide) ?_
    refine lv_icmp_lt (tgt := 33) hx hb (dk DX11_startPiece 13 rfl) (by decide) (fun hc => ?_) (fun hc => ?_)
    · have h := h.1 hc
      refine lv_aload_n hx hb (dk DX11_startPiece 16 rfl) rfl (lv_at hl 0 rfl) ?_
      refine gX_11 X hP 1 (by decide) rfl lk210 (dk DX11_startPiece 17 rfl) ?_
      refine lv_topi (fun v3 ev3 => ?_)
      have h := h v3 ev3
      refine lv_istore_n (lv' := [(3, .int v3), (2, .ref (q 11)), (0, .ref (q 0)), (1, .int a0)]) hx hb (dk DX11_startPiece 18 rfl) rfl hl (by decide) rfl (fun ls hl => ?_)
      refine lv_aload_n hx hb (dk DX11_startPiece 19 rfl) rfl (lv_at hl 1 rfl) ?_
      refine gX_11 X hP 2 (by decide) rfl lk201 (dk DX11_startPiece 20 rfl) ?_
      refine lv_iload_n hx hb (dk DX11_startPiece 21 rfl) rfl (lv_at hl 0 rfl) ?_
      refine lv_iload_n hx hb (dk DX11_startPiece 22 rfl) rfl (lv_at hl 3 rfl) ?_
      obtain ⟨hin, h⟩ := h
      refine stX_12 X hP hD hS hin (dk DX11_startPiece 23 rfl) (fun S4 eS4 H locs hP hD hS => ?_)
      have h := h S4 eS4
      refine lv_aload_n hx hb (dk DX11_startPiece 24 rfl) rfl (lv_at hl 1 rfl) ?_
      refine gX_11 X hP 3 (by decide) rfl lk145 (dk DX11_startPiece 25 rfl) ?_
      refine lv_iload_n hx hb (dk DX11_startPiece 26 rfl) rfl (lv_at hl 0 rfl) ?_
      refine lv_iconst (v := 0) hx hb (dk DX11_startPiece 27 rfl) (by decide) ?_
      obtain ⟨hin, h⟩ := h
      refine stX_13 X hP hD hS hin (dk DX11_startPiece 28 rfl) (fun S5 eS5 H locs hP hD hS => ?_)
      have h := h S5 eS5
      refine lv_aload_n hx hb (dk DX11_startPiece 29 rfl) rfl (lv_at hl 1 rfl) ?_
      refine lv_dup hx hb (dk DX11_startPiece 30 rfl) rfl ?_
      refine gX_11 X hP 1 (by decide) rfl lk210 (dk DX11_startPiece 31 rfl) ?_
      refine lv_iconst (v := 1) hx hb (dk DX11_startPiece 32 rfl) (by decide) ?_
      refine lv_iadd hx hb (dk DX11_startPiece 33 rfl) ?_
      refine lv_topi (fun v6 ev6 => ?_)
      have h := h v6 ev6
      refine pX_11_1 X hP hD hS lk210 (dk DX11_startPiece 34 rfl) (fun S7 eS7 H locs hP hD hS => ?_)
      have h := h S7 eS7
      refine lv_aload_n hx hb (dk DX11_startPiece 35 rfl) rfl (lv_at hl 2 rfl) ?_
      refine gX_0 X hP 0 (by decide) rfl lk12 (dk DX11_startPiece 36 rfl) ?_
      refine gX_1 X hP 3 (by decide) rfl lk167 (dk DX11_startPiece 37 rfl) ?_
      refine lv_iconst (v := 0) hx hb (dk DX11_startPiece 38 rfl) (by decide) ?_
      refine lv_iload_n hx hb (dk DX11_startPiece 39 rfl) rfl (lv_at hl 0 rfl) ?_
      refine cXi (As := [.int 0, .int v3]) (rest := []) X (m_X6_push_15 (l := l) (dC := dC) (dI := dI) (q := q) (cI := cI) (cT := cT) (en := en) (sz := _) 0 v3 S7 h) (cwV 2 X.2.2.2.2.1 (gxV 638 639 640 497 548 rfl rfl rfl rfl rfl) rfl rfl rfl q_X6_push_15 ⟨Nat.le_of_ble_eq_true rfl, Nat.le_of_ble_eq_true rfl⟩) (rX_15 X hP) hP hD hS rfl hl.1 rfl (Nat.le_of_ble_eq_true rfl) (dk DX11_startPiece 40 rfl) (fun r9 S8 H locs h hP hD hS => ?_)
      refine lv_pop hx hb (dk DX11_startPiece 41 rfl) rfl ?_
      refine lv_iload_n hx hb (dk DX11_startPiece 42 rfl) rfl (lv_at hl 0 rfl) ?_
      exact W.iret (v := v3) hx hb hr (fun t ht hW => ⟨⟨_, _, rfl, h, by rw [ht]; exact hP, va_K.moved hW.alike X.2.2.2.2.2.2.1, hD⟩, hS.F ht⟩) hS.2.2 (dk DX11_startPiece 43 rfl)
    · have h := h.2 hc
      refine lv_iconst (v := (-1)) hx hb (dk DX11_startPiece 14 rfl) (by decide) ?_
      exact W.iret (v := (-1)) hx hb hr (fun t ht hW => ⟨⟨_, _, rfl, h, by rw [ht]; exact hP, va_K.moved hW.alike X.2.2.2.2.2.2.1, hD⟩, hS.F ht⟩) hS.2.2 (dk DX11_startPiece 15 rfl)

def ww_X11_begin_0 : List Cond := .code yX11_begin cX11_begin 2 (some .int) :: (WdX ++ WsX)
theorem q_X11_begin_0 : yX11_begin.cls = RX11 ∧ yX11_begin.cls ≠ "java/lang/invoke/MethodHandle" ∧ yX11_begin.cls ≠ "java/lang/invoke/VarHandle" ∧ (parseMethodDescriptor yX11_begin.desc).map (fun d => d.parameters.length) = some 1 := by decide +kernel
def VC_X11_begin_0 (Post : Int32 → XS → Prop) (a0 : Int32) (S : XS) : Prop := VC_X11_startPiece_0 (fun r2 S1 => Post r2 S1) a0 S
set_option maxHeartbeats 4000000 in
set_option maxRecDepth 100000 in
theorem m_X11_begin_0 {l : Launch} {dC : Nat → ClassId} {dI : Nat → Nat → Nat} {q : Nat → Nat} {cI cT : ClassId} {en : Nat → Nat} {sz : Nat} {Post : Int32 → XS → Prop} (a0 : Int32) (S : XS) (h : VC_X11_begin_0 Post a0 S) : Met l yX11_begin ww_X11_begin_0 ({ frames := 4, cells := 0, slots := 0, locals := 92 } : Room) (va_Pc [.ref (q 0), .int a0] (preX dC dI q cI cT en S sz)) (va_Qi Post (atX dC dI q cI cT (va_A (wX q cI cT S) sz)) (va_A (wX q cI cT S) sz)) 0 0 (va_A (wX q cI cT S) sz) := by
  refine oX (cc := cX11_begin) (maxL := 2) (ret := (some .int)) (Qc := fun A => va_Qi Post (atX dC dI q cI cT A) A) (own := RX11) (by decide) rfl (fun w h => List.mem_cons_of_mem _ (List.mem_append_right _ h)) rfl (Nat.le_of_ble_eq_true rfl) (fun p e s m below meth c A ls X hr hlocks hP hD hS hl => ?_)
  have hx := X.1
  have hb := X.2.1
  have hl : lv_has ls 2 [(0, .ref (q 0)), (1, .int a0)] := hl
  dsimp only [VC_X11_begin_0] at h
  refine lv_aload_n hx hb (dk DX11_begin 0 rfl) rfl (lv_at hl 0 rfl) ?_
  refine lv_iload_n hx hb (dk DX11_begin 1 rfl) rfl (lv_at hl 1 rfl) ?_
  refine cXi (As := [.int a0]) (rest := []) X (m_X11_startPiece_0 (l := l) (dC := dC) (dI := dI) (q := q) (cI := cI) (cT := cT) (en := en) (sz := _) a0 S h) (cwV 1 X.2.2.2.2.1 (gxV 642 643 644 16 641 rfl rfl rfl rfl rfl) rfl rfl rfl q_X11_startPiece_0 ⟨Nat.le_of_ble_eq_true rfl, Nat.le_of_ble_eq_true rfl⟩) (rX_0 X hP) hP hD hS rfl hl.1 rfl (Nat.le_of_ble_eq_true rfl) (dk DX11_begin 2 rfl) (fun r2 S1 H locs h hP hD hS => ?_)
  exact W.iret (v := r2) hx hb hr (fun t ht hW => ⟨⟨_, _, rfl, h, by rw [ht]; exact hP, va_K.moved hW.alike X.2.2.2.2.2.2.1, hD⟩, hS.F ht⟩) hS.2.2 (dk DX11_begin 3 rfl)

def ww_X11_passHours_0 : List Cond := .code yX11_passHours cX11_passHours 3 (some .int) :: (WdX ++ WsX)
theorem q_X11_passHours_0 : yX11_passHours.cls = RX11 ∧ yX11_passHours.cls ≠ "java/lang/invoke/MethodHandle" ∧ yX11_passHours.cls ≠ "java/lang/invoke/VarHandle" ∧ (parseMethodDescriptor yX11_passHours.desc).map (fun d => d.parameters.length) = some 1 := by decide +kernel
abbrev Hd_X11_passHours_0 : Type := (Int32 × Int32)
def B_X11_passHours_0 (Post : Int32 → XS → Prop) (K : Hd_X11_passHours_0 → XS → Prop) : Hd_X11_passHours_0 → XS → Prop
  | (x1, x2), S => ((x1 ≤ x2 → Post (S.1 352) S) ∧ (¬ x1 ≤ x2 → ∀ v2 : Int32, v2 = (S.1 352) + 1 → ∀ S3 : XS, S3 = xI S 352 v2 → VC_X6_push_15 (fun r5 S4 => ∀ v6 : Int32, v6 = x2 + 1 → K (x1, v6) S4) 2 (-1) S3))
def VC_X11_passHours_0 (Post : Int32 → XS → Prop) (a0 : Int32) (S : XS) : Prop := ∀ K : Hd_X11_passHours_0 → XS → Prop, (∀ h S, B_X11_passHours_0 Post K h S → K h S) → VC_X11_within (fun r1 => ((r1 = 0 → Post (-1) S) ∧ (¬ r1 = 0 → ((((S.1 352) + a0) ≤ 999 → K (a0, 0) S) ∧ (¬ ((S.1 352) + a0) ≤ 999 → Post (-1) S))))) a0 1 99
set_option maxHeartbeats 4000000 in
set_option maxRecDepth 100000 in
theorem h_X11_passHours_0_0 {p : Program} {l : Launch} {e : Env} {s : State} {m : MethodId} {below : List Frame} {meth : Method} {c : Code} {dC : Nat → ClassId} {dI : Nat → Nat → Nat} {q : Nat → Nat} {cI cT : ClassId} {en : Nat → Nat} {A : Nat → Prop} {args : Array Value} {Post : Int32 → XS → Prop} {K : Hd_X11_passHours_0 → XS → Prop} (X : XX p s m args c cX11_passHours 3 ww_X11_passHours_0 RX11 dC dI cI cT en A) (hr : meth.sig.returnType = (some .int)) (hlocks : meth.locks = false) (hK0 : ∀ (x1 : Int32) (x2 : Int32) (S : XS), K (x1, x2) S → ∀ (H : Heap) (locs : List Loc), va_P (dC, dI) vwCl (wX q cI cT S) H → va_D A (wX q cI cT S) → va_S A s.heap H locs → ∀ ls : Array Slot, lv_has ls 3 [(0, .ref (q 0)), (1, .int x1), (2, .int x2)] → W p l e (headSpec ww_X11_passHours_0 ({ frames := 3, cells := 0, slots := 0, locals := 69 } : Room)).room s m args below meth c H locs 0 0 (MQ below (va_Qi Post (atX dC dI q cI cT A) A) args s 0 0 A) (F0 m 32 ls [])) (x1 : Int32) (x2 : Int32) (S : XS) (h : B_X11_passHours_0 Post K (x1, x2) S) : ∀ (H : Heap) (locs : List Loc), va_P (dC, dI) vwCl (wX q cI cT S) H → va_D A (wX q cI cT S) → va_S A s.heap H locs → ∀ ls : Array Slot, lv_has ls 3 [(0, .ref (q 0)), (1, .int x1), (2, .int x2)] → W p l e (headSpec ww_X11_passHours_0 ({ frames := 3, cells := 0, slots := 0, locals := 69 } : Room)).room s m args below meth c H locs 0 0 (MQ below (va_Qi Post (atX dC dI q cI cT A) A) args s 0 0 A) (F0 m 32 ls []) := by
  have hx := X.1
  have hb := X.2.1
  intro H locs hP hD hS ls hl
  have lk12 := X.2.2.2.2.1 (.fieldLink RX11 12 "BreathOnLoan" "now" "LBreathOnLoan$State;") (inX 568 rfl)
  have lk141 := X.2.2.2.2.1 (.fieldLink RX11 141 "BreathOnLoan$State" "bench" "LBreathOnLoan$Bench;") (inX 632 rfl)
  have lk191 := X.2.2.2.2.1 (.fieldLink RX11 191 "BreathOnLoan$Bench" "hour" "I") (inX 650 rfl)
  have lk167 := X.2.2.2.2.1 (.fieldLink RX11 167 "BreathOnLoan$State" "steps" "LBreathOnLoan$Steps;") (inX 636 rfl)
  dsimp only [B_X11_passHours_0] at h
  refine lv_iload_n hx hb (dk DX11_passHours 17 rfl) rfl (lv_at hl 2 rfl) ?_
  refine lv_iload_n hx hb (dk DX11_passHours 18 rfl) rfl (lv_at hl 1 rfl) ?_
  refine lv_icmp_ge (tgt := 72) hx hb (dk DX11_passHours 19 rfl) (by decide) (fun hc => ?_) (fun hc => ?_)
  · have h := h.1 hc
    refine lv_aload_n hx hb (dk DX11_passHours 37 rfl) rfl (lv_at hl 0 rfl) ?_
    refine gX_0 X hP 0 (by decide) rfl lk12 (dk DX11_passHours 38 rfl) ?_
    refine gX_1 X hP 2 (by decide) rfl lk141 (dk DX11_passHours 39 rfl) ?_
    refine gX_11 X hP 0 (by decide) rfl lk191 (dk DX11_passHours 40 rfl) ?_
    exact W.iret (v := (S.1 352)) hx hb hr (fun t ht hW => ⟨⟨_, _, rfl, h, by rw [ht]; exact hP, va_K.moved hW.alike X.2.2.2.2.2.2.1, hD⟩, hS.F ht⟩) hS.2.2 (dk DX11_passHours 41 rfl)
  · have h := h.2 hc
    refine lv_aload_n hx hb (dk DX11_passHours 20 rfl) rfl (lv_at hl 0 rfl) ?_
    refine gX_0 X hP 0 (by decide) rfl lk12 (dk DX11_passHours 21 rfl) ?_
    refine gX_1 X hP 2 (by decide) rfl lk141 (dk DX11_passHours 22 rfl) ?_
    refine lv_dup hx hb (dk DX11_passHours 23 rfl) rfl ?_
    refine gX_11 X hP 0 (by decide) rfl lk191 (dk DX11_passHours 24 rfl) ?_
    refine lv_iconst (v := 1) hx hb (dk DX11_passHours 25 rfl) (by decide) ?_
    refine lv_iadd hx hb (dk DX11_passHours 26 rfl) ?_
    refine lv_topi (fun v2 ev2 => ?_)
    have h := h v2 ev2
    refine pX_11_0 X hP hD hS lk191 (dk DX11_passHours 27 rfl) (fun S3 eS3 H locs hP hD hS => ?_)
    have h := h S3 eS3
    refine lv_aload_n hx hb (dk DX11_passHours 28 rfl) rfl (lv_at hl 0 rfl) ?_
    refine gX_0 X hP 0 (by decide) rfl lk12 (dk DX11_passHours 29 rfl) ?_
    refine gX_1 X hP 3 (by decide) rfl lk167 (dk DX11_passHours 30 rfl) ?_
    refine lv_iconst (v := 2) hx hb (dk DX11_passHours 31 rfl) (by decide) ?_
    refine lv_iconst (v := (-1)) hx hb (dk DX11_passHours 32 rfl) (by decide) ?_
    refine cXi (As := [.int 2, .int (-1)]) (rest := []) X (m_X6_push_15 (l := l) (dC := dC) (dI := dI) (q := q) (cI := cI) (cT := cT) (en := en) (sz := _) 2 (-1) S3 h) (cwV 2 X.2.2.2.2.1 (gxV 638 639 640 497 548 rfl rfl rfl rfl rfl) rfl rfl rfl q_X6_push_15 ⟨Nat.le_of_ble_eq_true rfl, Nat.le_of_ble_eq_true rfl⟩) (rX_15 X hP) hP hD hS rfl hl.1 rfl (Nat.le_of_ble_eq_true rfl) (dk DX11_passHours 33 rfl) (fun r5 S4 H locs h hP hD hS => ?_)
    refine lv_pop hx hb (dk DX11_passHours 34 rfl) rfl ?_
    obtain ⟨v6, ev6⟩ : ∃ y : Int32, y = x2 + 1 := ⟨_, rfl⟩
    have h := h v6 ev6
    refine lv_iinc (v := v6) (lv' := [(2, .int v6), (0, .ref (q 0)), (1, .int x1)]) hx hb (dk DX11_passHours 35 rfl) hl (k := 2) rfl (by rw [ev6]; rfl) (by decide) rfl (fun ls hl => ?_)
    refine lv_goto (tgt := 32) hx hb (dk DX11_passHours 36 rfl) (by decide) ?_
    exact hK0 x1 v6 S4 h _ _ hP hD hS ls (lv_sub hl [1, 2, 0] rfl)
set_option maxHeartbeats 4000000 in
set_option maxRecDepth 100000 in
theorem m_X11_passHours_0 {l : Launch} {dC : Nat → ClassId} {dI : Nat → Nat → Nat} {q : Nat → Nat} {cI cT : ClassId} {en : Nat → Nat} {sz : Nat} {Post : Int32 → XS → Prop} (a0 : Int32) (S : XS) (h : VC_X11_passHours_0 Post a0 S) : Met l yX11_passHours ww_X11_passHours_0 ({ frames := 3, cells := 0, slots := 0, locals := 69 } : Room) (va_Pc [.ref (q 0), .int a0] (preX dC dI q cI cT en S sz)) (va_Qi Post (atX dC dI q cI cT (va_A (wX q cI cT S) sz)) (va_A (wX q cI cT S) sz)) 0 0 (va_A (wX q cI cT S) sz) := by
  refine oX (cc := cX11_passHours) (maxL := 3) (ret := (some .int)) (Qc := fun A => va_Qi Post (atX dC dI q cI cT A) A) (own := RX11) (by decide) rfl (fun w h => List.mem_cons_of_mem _ (List.mem_append_right _ h)) rfl (Nat.le_of_ble_eq_true rfl) (fun p e s m below meth c A ls X hr hlocks hP hD hS hl => ?_)
  have hx := X.1
  have hb := X.2.1
  have hl : lv_has ls 3 [(0, .ref (q 0)), (1, .int a0)] := hl
  have lk12 := X.2.2.2.2.1 (.fieldLink RX11 12 "BreathOnLoan" "now" "LBreathOnLoan$State;") (inX 568 rfl)
  have lk141 := X.2.2.2.2.1 (.fieldLink RX11 141 "BreathOnLoan$State" "bench" "LBreathOnLoan$Bench;") (inX 632 rfl)
  have lk191 := X.2.2.2.2.1 (.fieldLink RX11 191 "BreathOnLoan$Bench" "hour" "I") (inX 650 rfl)
  have lk167 := X.2.2.2.2.1 (.fieldLink RX11 167 "BreathOnLoan$State" "steps" "LBreathOnLoan$Steps;") (inX 636 rfl)
  generalize hargs : ([.ref (q 0), .int a0] : List Value).toArray = args at X ⊢
  have h := h (fun hd S => match hd with | (x1, x2) => ∀ (H : Heap) (locs : List Loc), va_P (dC, dI) vwCl (wX q cI cT S) H → va_D A (wX q cI cT S) → va_S A s.heap H locs → ∀ ls : Array Slot, lv_has ls 3 [(0, .ref (q 0)), (1, .int x1), (2, .int x2)] → W p l e (headSpec ww_X11_passHours_0 ({ frames := 3, cells := 0, slots := 0, locals := 69 } : Room)).room s m args below meth c H locs 0 0 (MQ below (va_Qi Post (atX dC dI q cI cT A) A) args s 0 0 A) (F0 m 32 ls [])) ?_
  · skip
    refine lv_iload_n hx hb (dk DX11_passHours 0 rfl) rfl (lv_at hl 1 rfl) ?_
    refine lv_iconst (v := 1) hx hb (dk DX11_passHours 1 rfl) (by decide) ?_
    refine lv_bipush (v := 99) hx hb (dk DX11_passHours 2 rfl) (by decide) ?_
    refine cSi (As := [.int a0, .int 1, .int 99]) (rest := []) ⟨X.1, X.2.1, X.2.2.1, X.2.2.2.1, X.2.2.2.2.1⟩ (m_X11_within (l := l) a0 1 99 h) (va_cwS 3 X.2.2.2.2.1 (gxS 593 327 16 324 rfl rfl rfl rfl) rfl rfl rfl q_X11_within ⟨Nat.le_of_ble_eq_true rfl, Nat.le_of_ble_eq_true rfl⟩) rfl hl.1 rfl (Nat.le_of_ble_eq_true rfl) (dk DX11_passHours 3 rfl) (fun r1 h => ?_)
    refine lv_if_eq (tgt := 28) hx hb (dk DX11_passHours 4 rfl) (by decide) (fun hc => ?_) (fun hc => ?_)
    · have h := h.1 hc
      refine lv_iconst (v := (-1)) hx hb (dk DX11_passHours 13 rfl) (by decide) ?_
      exact W.iret (v := (-1)) hx hb hr (fun t ht hW => ⟨⟨_, _, rfl, h, by rw [ht]; exact hP, va_K.moved hW.alike X.2.2.2.2.2.2.1, hD⟩, hS.F ht⟩) hS.2.2 (dk DX11_passHours 14 rfl)
    · have h := h.2 hc
      refine lv_aload_n hx hb (dk DX11_passHours 5 rfl) rfl (lv_at hl 0 rfl) ?_
      refine gX_0 X hP 0 (by decide) rfl lk12 (dk DX11_passHours 6 rfl) ?_
      refine gX_1 X hP 2 (by decide) rfl lk141 (dk DX11_passHours 7 rfl) ?_
      refine gX_11 X hP 0 (by decide) rfl lk191 (dk DX11_passHours 8 rfl) ?_
      refine lv_iload_n hx hb (dk DX11_passHours 9 rfl) rfl (lv_at hl 1 rfl) ?_
      refine lv_iadd hx hb (dk DX11_passHours 10 rfl) ?_
      refine lv_sipush (v := 999) hx hb (dk DX11_passHours 11 rfl) (by decide) ?_
      refine lv_icmp_le (tgt := 30) hx hb (dk DX11_passHours 12 rfl) (by decide) (fun hc => ?_) (fun hc => ?_)
      · have h := h.1 hc
        refine lv_iconst (v := 0) hx hb (dk DX11_passHours 15 rfl) (by decide) ?_
        refine lv_istore_n (lv' := [(2, .int 0), (0, .ref (q 0)), (1, .int a0)]) hx hb (dk DX11_passHours 16 rfl) rfl hl (by decide) rfl (fun ls hl => ?_)
        exact h _ _ hP hD hS ls (lv_sub hl [1, 2, 0] rfl)
      · have h := h.2 hc
        refine lv_iconst (v := (-1)) hx hb (dk DX11_passHours 13 rfl) (by decide) ?_
        exact W.iret (v := (-1)) hx hb hr (fun t ht hW => ⟨⟨_, _, rfl, h, by rw [ht]; exact hP, va_K.moved hW.alike X.2.2.2.2.2.2.1, hD⟩, hS.F ht⟩) hS.2.2 (dk DX11_passHours 14 rfl)
  · rintro ⟨x1, x2⟩ S hB
    exact h_X11_passHours_0_0 X hr hlocks (hK0 := fun _ _ _ h => h) x1 x2 S hB

