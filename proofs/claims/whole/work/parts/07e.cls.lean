-- X11_later_0 X11_takeBack_0 X11_undo_0 X11_of_0 X11_piece_0 X11_bubble_0 X11_seen_0 X11_canHaveBlown_0
def ww_X11_later_0 : List Cond := .code yX11_later cX11_later 2 (some .int) :: (WdX ++ WsX)
theorem q_X11_later_0 : yX11_later.cls = RX11 ∧ yX11_later.cls ≠ "java/lang/invoke/MethodHandle" ∧ yX11_later.cls ≠ "java/lang/invoke/VarHandle" ∧ (parseMethodDescriptor yX11_later.desc).map (fun d => d.parameters.length) = some 1 := by decide +kernel
def VC_X11_later_0 (Post : Int32 → XS → Prop) (a0 : Int32) (S : XS) : Prop := VC_X11_passHours_0 (fun r2 S1 => Post r2 S1) a0 S
set_option maxHeartbeats 4000000 in
set_option maxRecDepth 100000 in
theorem m_X11_later_0 {l : Launch} {dC : Nat → ClassId} {dI : Nat → Nat → Nat} {q : Nat → Nat} {cI cT : ClassId} {en : Nat → Nat} {sz : Nat} {Post : Int32 → XS → Prop} (a0 : Int32) (S : XS) (h : VC_X11_later_0 Post a0 S) : Met l yX11_later ww_X11_later_0 ({ frames := 4, cells := 0, slots := 0, locals := 91 } : Room) (va_Pc [.ref (q 0), .int a0] (preX dC dI q cI cT en S sz)) (va_Qi Post (atX dC dI q cI cT (va_A (wX q cI cT S) sz)) (va_A (wX q cI cT S) sz)) 0 0 (va_A (wX q cI cT S) sz) := by
  refine oX (cc := cX11_later) (maxL := 2) (ret := (some .int)) (Qc := fun A => va_Qi Post (atX dC dI q cI cT A) A) (own := RX11) (by decide) rfl (fun w h => List.mem_cons_of_mem _ (List.mem_append_right _ h)) rfl (Nat.le_of_ble_eq_true rfl) (fun p e s m below meth c A ls X hr hlocks hP hD hS hl => ?_)
  have hx := X.1
  have hb := X.2.1
  have hl : lv_has ls 2 [(0, .ref (q 0)), (1, .int a0)] := hl
  dsimp only [VC_X11_later_0] at h
  refine lv_aload_n hx hb (dk DX11_later 0 rfl) rfl (lv_at hl 0 rfl) ?_
  refine lv_iload_n hx hb (dk DX11_later 1 rfl) rfl (lv_at hl 1 rfl) ?_
  refine cXi (As := [.int a0]) (rest := []) X (m_X11_passHours_0 (l := l) (dC := dC) (dI := dI) (q := q) (cI := cI) (cT := cT) (en := en) (sz := _) a0 S h) (cwV 1 X.2.2.2.2.1 (gxV 668 669 670 16 667 rfl rfl rfl rfl rfl) rfl rfl rfl q_X11_passHours_0 ⟨Nat.le_of_ble_eq_true rfl, Nat.le_of_ble_eq_true rfl⟩) (rX_0 X hP) hP hD hS rfl hl.1 rfl (Nat.le_of_ble_eq_true rfl) (dk DX11_later 2 rfl) (fun r2 S1 H locs h hP hD hS => ?_)
  exact W.iret (v := r2) hx hb hr (fun t ht hW => ⟨⟨_, _, rfl, h, by rw [ht]; exact hP, va_K.moved hW.alike X.2.2.2.2.2.2.1, hD⟩, hS.F ht⟩) hS.2.2 (dk DX11_later 3 rfl)

def ww_X11_takeBack_0 : List Cond := .code yX11_takeBack cX11_takeBack 4 none :: (WdX ++ WsX)
theorem q_X11_takeBack_0 : yX11_takeBack.cls = RX11 ∧ yX11_takeBack.cls ≠ "java/lang/invoke/MethodHandle" ∧ yX11_takeBack.cls ≠ "java/lang/invoke/VarHandle" ∧ (parseMethodDescriptor yX11_takeBack.desc).map (fun d => d.parameters.length) = some 1 := by decide +kernel
abbrev Hd_X11_takeBack_0 : Type := (Int32 × Int32)
def B_X11_takeBack_0 (Post : XS → Prop) (K : Hd_X11_takeBack_0 → XS → Prop) : Hd_X11_takeBack_0 → XS → Prop
  | (x1, x3), S => (((S.1 64) ≤ x3 → vp_in x1 240 ∧ ((((S.2.1 16) x1.toNatClampNeg) = 0 → ∀ v1 : Int32, v1 = (S.1 353) - 1 → ∀ S2 : XS, S2 = xI S 353 v1 → Post S2) ∧ (((S.2.1 16) x1.toNatClampNeg) = 1 → ∀ v3 : Int32, v3 = (S.1 356) - 1 → ∀ S4 : XS, S4 = xI S 356 v3 → Post S4) ∧ (((S.2.1 16) x1.toNatClampNeg) = 2 → ∀ v5 : Int32, v5 = (S.1 352) - 1 → ∀ S6 : XS, S6 = xI S 352 v5 → Post S6) ∧ (¬ ((S.2.1 16) x1.toNatClampNeg) = 0 → ¬ ((S.2.1 16) x1.toNatClampNeg) = 1 → ¬ ((S.2.1 16) x1.toNatClampNeg) = 2 → vp_in (x1 + 1) 240 ∧ VC_X0_has_11 (fun r8 S7 => ((r8 = 0 → Post S7) ∧ (¬ r8 = 0 → vp_in (x1 + 1) 240 ∧ vp_in ((S7.2.1 16) (x1 + 1).toNatClampNeg) 10 ∧ ∀ S9 : XS, S9 = xF S7 13 (upd (S7.2.1 13) ((S7.2.1 16) (x1 + 1).toNatClampNeg).toNatClampNeg 0) → Post S9))) ((S.2.1 16) (x1 + 1).toNatClampNeg) S))) ∧ (¬ (S.1 64) ≤ x3 → vp_in x3 6 ∧ vp_in ((x1 + 2) + x3) 240 ∧ ∀ v10 : Int32, v10 = ((S.2.1 5) x3.toNatClampNeg) - ((S.2.1 16) ((x1 + 2) + x3).toNatClampNeg) → vp_in x3 6 ∧ ∀ S11 : XS, S11 = xF S 5 (upd (S.2.1 5) x3.toNatClampNeg v10) → ∀ v12 : Int32, v12 = x3 + 1 → K (x1, v12) S11))
def VC_X11_takeBack_0 (Post : XS → Prop) (a0 : Int32) (S : XS) : Prop := ∀ K : Hd_X11_takeBack_0 → XS → Prop, (∀ h S, B_X11_takeBack_0 Post K h S → K h S) → K (a0, 0) S
set_option maxHeartbeats 4000000 in
set_option maxRecDepth 100000 in
theorem h_X11_takeBack_0_0 {p : Program} {l : Launch} {e : Env} {s : State} {m : MethodId} {below : List Frame} {meth : Method} {c : Code} {dC : Nat → ClassId} {dI : Nat → Nat → Nat} {q : Nat → Nat} {cI cT : ClassId} {en : Nat → Nat} {A : Nat → Prop} {args : Array Value} {Post : XS → Prop} {K : Hd_X11_takeBack_0 → XS → Prop} (X : XX p s m args c cX11_takeBack 4 ww_X11_takeBack_0 RX11 dC dI cI cT en A) (hr : meth.sig.returnType = none) (hlocks : meth.locks = false) (hK0 : ∀ (x1 : Int32) (x3 : Int32) (S : XS), K (x1, x3) S → ∀ (H : Heap) (locs : List Loc), va_P (dC, dI) vwCl (wX q cI cT S) H → va_D A (wX q cI cT S) → va_S A s.heap H locs → ∀ ls : Array Slot, lv_has ls 4 [(0, .ref (q 0)), (1, .int x1), (2, .ref (q 16)), (3, .int x3)] → W p l e (headSpec ww_X11_takeBack_0 ({ frames := 1, cells := 0, slots := 0, locals := 21 } : Room)).room s m args below meth c H locs 0 0 (MQ below (va_Qv Post (atX dC dI q cI cT A) A) args s 0 0 A) (F0 m 13 ls [])) (x1 : Int32) (x3 : Int32) (S : XS) (h : B_X11_takeBack_0 Post K (x1, x3) S) : ∀ (H : Heap) (locs : List Loc), va_P (dC, dI) vwCl (wX q cI cT S) H → va_D A (wX q cI cT S) → va_S A s.heap H locs → ∀ ls : Array Slot, lv_has ls 4 [(0, .ref (q 0)), (1, .int x1), (2, .ref (q 16)), (3, .int x3)] → W p l e (headSpec ww_X11_takeBack_0 ({ frames := 1, cells := 0, slots := 0, locals := 21 } : Room)).room s m args below meth c H locs 0 0 (MQ below (va_Qv Post (atX dC dI q cI cT A) A) args s 0 0 A) (F0 m 13 ls []) := by
  have hx := X.1
  have hb := X.2.1
  intro H locs hP hD hS ls hl
  have lk12 := X.2.2.2.2.1 (.fieldLink RX11 12 "BreathOnLoan" "now" "LBreathOnLoan$State;") (inX 568 rfl)
  have lk167 := X.2.2.2.2.1 (.fieldLink RX11 167 "BreathOnLoan$State" "steps" "LBreathOnLoan$Steps;") (inX 636 rfl)
  have lk303 := X.2.2.2.2.1 (.fieldLink RX11 303 "BreathOnLoan$Steps" "rows" "[I") (inX 648 rfl)
  have lk57 := X.2.2.2.2.1 (.fieldLink RX11 57 "BreathOnLoan$State" "crew" "LBreathOnLoan$Crew;") (inX 592 rfl)
  have lk256 := X.2.2.2.2.1 (.fieldLink RX11 256 "BreathOnLoan$Crew" "count" "I") (inX 672 rfl)
  have lk141 := X.2.2.2.2.1 (.fieldLink RX11 141 "BreathOnLoan$State" "bench" "LBreathOnLoan$Bench;") (inX 632 rfl)
  have lk210 := X.2.2.2.2.1 (.fieldLink RX11 210 "BreathOnLoan$Bench" "pieces" "I") (inX 633 rfl)
  have lk204 := X.2.2.2.2.1 (.fieldLink RX11 204 "BreathOnLoan$Bench" "bubbles" "I") (inX 649 rfl)
  have lk191 := X.2.2.2.2.1 (.fieldLink RX11 191 "BreathOnLoan$Bench" "hour" "I") (inX 650 rfl)
  have lk145 := X.2.2.2.2.1 (.fieldLink RX11 145 "BreathOnLoan$Bench" "sold" "[I") (inX 635 rfl)
  have lk188 := X.2.2.2.2.1 (.fieldLink RX11 188 "BreathOnLoan$Crew" "beads" "[I") (inX 647 rfl)
  dsimp only [B_X11_takeBack_0] at h
  refine lv_iload_n hx hb (dk DX11_takeBack 7 rfl) rfl (lv_at hl 3 rfl) ?_
  refine lv_aload_n hx hb (dk DX11_takeBack 8 rfl) rfl (lv_at hl 0 rfl) ?_
  refine gX_0 X hP 0 (by decide) rfl lk12 (dk DX11_takeBack 9 rfl) ?_
  refine gX_1 X hP 0 (by decide) rfl lk57 (dk DX11_takeBack 10 rfl) ?_
  refine gX_2 X hP 0 (by decide) rfl lk256 (dk DX11_takeBack 11 rfl) ?_
  refine lv_icmp_ge (tgt := 55) hx hb (dk DX11_takeBack 12 rfl) (by decide) (fun hc => ?_) (fun hc => ?_)
  · have h := h.1 hc
    refine lv_aload_n hx hb (dk DX11_takeBack 31 rfl) rfl (lv_at hl 2 rfl) ?_
    refine lv_iload_n hx hb (dk DX11_takeBack 32 rfl) rfl (lv_at hl 1 rfl) ?_
    obtain ⟨hin, h⟩ := h
    refine ldX_16 X hP hin (dk DX11_takeBack 33 rfl) ?_
    by_cases hc0 : ((S.2.1 16) x1.toNatClampNeg) = 0
    · have h := h.1 hc0
      refine lv_tableIn (off := 26) (tgt := 84) hx hb (dk DX11_takeBack 34 rfl) (by rw [hc0]; decide) (by rw [hc0]; decide) (by rw [hc0]; decide) (by decide) ?_
      refine lv_aload_n hx hb (dk DX11_takeBack 35 rfl) rfl (lv_at hl 0 rfl) ?_
      refine gX_0 X hP 0 (by decide) rfl lk12 (dk DX11_takeBack 36 rfl) ?_
      refine gX_1 X hP 2 (by decide) rfl lk141 (dk DX11_takeBack 37 rfl) ?_
      refine lv_dup hx hb (dk DX11_takeBack 38 rfl) rfl ?_
      refine gX_11 X hP 1 (by decide) rfl lk210 (dk DX11_takeBack 39 rfl) ?_
      refine lv_iconst (v := 1) hx hb (dk DX11_takeBack 40 rfl) (by decide) ?_
      refine lv_isub hx hb (dk DX11_takeBack 41 rfl) ?_
      refine lv_topi (fun v1 ev1 => ?_)
      have h := h v1 ev1
      refine pX_11_1 X hP hD hS lk210 (dk DX11_takeBack 42 rfl) (fun S2 eS2 H locs hP hD hS => ?_)
      have h := h S2 eS2
      refine lv_goto (tgt := 176) hx hb (dk DX11_takeBack 43 rfl) (by decide) ?_
      exact W.vret hx hb hr (fun t ht hW => ⟨⟨_, rfl, h, by rw [ht]; exact hP, va_K.moved hW.alike X.2.2.2.2.2.2.1, hD⟩, hS.F ht⟩) hS.2.2 (dk DX11_takeBack 83 rfl)
    have h := h.2
    by_cases hc1 : ((S.2.1 16) x1.toNatClampNeg) = 1
    · have h := h.1 hc1
      refine lv_tableIn (off := 45) (tgt := 103) hx hb (dk DX11_takeBack 34 rfl) (by rw [hc1]; decide) (by rw [hc1]; decide) (by rw [hc1]; decide) (by decide) ?_
      refine lv_aload_n hx hb (dk DX11_takeBack 44 rfl) rfl (lv_at hl 0 rfl) ?_
      refine gX_0 X hP 0 (by decide) rfl lk12 (dk DX11_takeBack 45 rfl) ?_
      refine gX_1 X hP 2 (by decide) rfl lk141 (dk DX11_takeBack 46 rfl) ?_
      refine lv_dup hx hb (dk DX11_takeBack 47 rfl) rfl ?_
      refine gX_11 X hP 4 (by decide) rfl lk204 (dk DX11_takeBack 48 rfl) ?_
      refine lv_iconst (v := 1) hx hb (dk DX11_takeBack 49 rfl) (by decide) ?_
      refine lv_isub hx hb (dk DX11_takeBack 50 rfl) ?_
      refine lv_topi (fun v3 ev3 => ?_)
      have h := h v3 ev3
      refine pX_11_4 X hP hD hS lk204 (dk DX11_takeBack 51 rfl) (fun S4 eS4 H locs hP hD hS => ?_)
      have h := h S4 eS4
      refine lv_goto (tgt := 176) hx hb (dk DX11_takeBack 52 rfl) (by decide) ?_
      exact W.vret hx hb hr (fun t ht hW => ⟨⟨_, rfl, h, by rw [ht]; exact hP, va_K.moved hW.alike X.2.2.2.2.2.2.1, hD⟩, hS.F ht⟩) hS.2.2 (dk DX11_takeBack 83 rfl)
    have h := h.2
    by_cases hc2 : ((S.2.1 16) x1.toNatClampNeg) = 2
    · have h := h.1 hc2
      refine lv_tableIn (off := 64) (tgt := 122) hx hb (dk DX11_takeBack 34 rfl) (by rw [hc2]; decide) (by rw [hc2]; decide) (by rw [hc2]; decide) (by decide) ?_
      refine lv_aload_n hx hb (dk DX11_takeBack 53 rfl) rfl (lv_at hl 0 rfl) ?_
      refine gX_0 X hP 0 (by decide) rfl lk12 (dk DX11_takeBack 54 rfl) ?_
      refine gX_1 X hP 2 (by decide) rfl lk141 (dk DX11_takeBack 55 rfl) ?_
      refine lv_dup hx hb (dk DX11_takeBack 56 rfl) rfl ?_
      refine gX_11 X hP 0 (by decide) rfl lk191 (dk DX11_takeBack 57 rfl) ?_
      refine lv_iconst (v := 1) hx hb (dk DX11_takeBack 58 rfl) (by decide) ?_
      refine lv_isub hx hb (dk DX11_takeBack 59 rfl) ?_
      refine lv_topi (fun v5 ev5 => ?_)
      have h := h v5 ev5
      refine pX_11_0 X hP hD hS lk191 (dk DX11_takeBack 60 rfl) (fun S6 eS6 H locs hP hD hS => ?_)
      have h := h S6 eS6
      refine lv_goto (tgt := 176) hx hb (dk DX11_takeBack 61 rfl) (by decide) ?_
      exact W.vret hx hb hr (fun t ht hW => ⟨⟨_, rfl, h, by rw [ht]; exact hP, va_K.moved hW.alike X.2.2.2.2.2.2.1, hD⟩, hS.F ht⟩) hS.2.2 (dk DX11_takeBack 83 rfl)
    have h := h.2
    have h := h hc0 hc1 hc2
    refine lv_tableOut (tgt := 141) hx hb (dk DX11_takeBack 34 rfl) (by have n0 := lv_neT hc0 (a := 0) (by decide); have n1 := lv_neT hc1 (a := 1) (by decide); have n2 := lv_neT hc2 (a := 2) (by decide); omega) (by decide) ?_
    refine lv_aload_n hx hb (dk DX11_takeBack 62 rfl) rfl (lv_at hl 0 rfl) ?_
    refine gX_0 X hP 0 (by decide) rfl lk12 (dk DX11_takeBack 63 rfl) ?_
    refine gX_1 X hP 2 (by decide) rfl lk141 (dk DX11_takeBack 64 rfl) ?_
    refine lv_aload_n hx hb (dk DX11_takeBack 65 rfl) rfl (lv_at hl 2 rfl) ?_
    refine lv_iload_n hx hb (dk DX11_takeBack 66 rfl) rfl (lv_at hl 1 rfl) ?_
    refine lv_iconst (v := 1) hx hb (dk DX11_takeBack 67 rfl) (by decide) ?_
    refine lv_iadd hx hb (dk DX11_takeBack 68 rfl) ?_
    obtain ⟨hin, h⟩ := h
    refine ldX_16 X hP hin (dk DX11_takeBack 69 rfl) ?_
    refine cXi (As := [.int ((S.2.1 16) (x1 + 1).toNatClampNeg)]) (rest := []) X (m_X0_has_11 (l := l) (dC := dC) (dI := dI) (q := q) (cI := cI) (cT := cT) (en := en) (sz := _) ((S.2.1 16) (x1 + 1).toNatClampNeg) S h) (cwV 1 X.2.2.2.2.1 (gxV 698 144 145 146 8 rfl rfl rfl rfl rfl) rfl rfl rfl q_X0_has_11 ⟨Nat.le_of_ble_eq_true rfl, Nat.le_of_ble_eq_true rfl⟩) (rX_11 X hP) hP hD hS rfl hl.1 rfl (Nat.le_of_ble_eq_true rfl) (dk DX11_takeBack 70 rfl) (fun r8 S7 H locs h hP hD hS => ?_)
    refine lv_if_eq (tgt := 176) hx hb (dk DX11_takeBack 71 rfl) (by decide) (fun hc => ?_) (fun hc => ?_)
    · have h := h.1 hc
      exact W.vret hx hb hr (fun t ht hW => ⟨⟨_, rfl, h, by rw [ht]; exact hP, va_K.moved hW.alike X.2.2.2.2.2.2.1, hD⟩, hS.F ht⟩) hS.2.2 (dk DX11_takeBack 83 rfl)
    · have h := h.2 hc
      refine lv_aload_n hx hb (dk DX11_takeBack 72 rfl) rfl (lv_at hl 0 rfl) ?_
      refine gX_0 X hP 0 (by decide) rfl lk12 (dk DX11_takeBack 73 rfl) ?_
      refine gX_1 X hP 2 (by decide) rfl lk141 (dk DX11_takeBack 74 rfl) ?_
      refine gX_11 X hP 3 (by decide) rfl lk145 (dk DX11_takeBack 75 rfl) ?_
      refine lv_aload_n hx hb (dk DX11_takeBack 76 rfl) rfl (lv_at hl 2 rfl) ?_
      refine lv_iload_n hx hb (dk DX11_takeBack 77 rfl) rfl (lv_at hl 1 rfl) ?_
      refine lv_iconst (v := 1) hx hb (dk DX11_takeBack 78 rfl) (by decide) ?_
      refine lv_iadd hx hb (dk DX11_takeBack 79 rfl) ?_
      obtain ⟨hin, h⟩ := h
      refine ldX_16 X hP hin (dk DX11_takeBack 80 rfl) ?_
      refine lv_iconst (v := 0) hx hb (dk DX11_takeBack 81 rfl) (by decide) ?_
      obtain ⟨hin, h⟩ := h
      refine stX_13 X hP hD hS hin (dk DX11_takeBack 82 rfl) (fun S9 eS9 H locs hP hD hS => ?_)
      have h := h S9 eS9
      exact W.vret hx hb hr (fun t ht hW => ⟨⟨_, rfl, h, by rw [ht]; exact hP, va_K.moved hW.alike X.2.2.2.2.2.2.1, hD⟩, hS.F ht⟩) hS.2.2 (dk DX11_takeBack 83 rfl)
  · have h := h.2 hc
    refine lv_aload_n hx hb (dk DX11_takeBack 13 rfl) rfl (lv_at hl 0 rfl) ?_
    refine gX_0 X hP 0 (by decide) rfl lk12 (dk DX11_takeBack 14 rfl) ?_
    refine gX_1 X hP 0 (by decide) rfl lk57 (dk DX11_takeBack 15 rfl) ?_
    refine gX_2 X hP 3 (by decide) rfl lk188 (dk DX11_takeBack 16 rfl) ?_
    refine lv_iload_n hx hb (dk DX11_takeBack 17 rfl) rfl (lv_at hl 3 rfl) ?_
    refine lv_dup2_11 hx hb (dk DX11_takeBack 18 rfl) rfl rfl ?_
    obtain ⟨hin, h⟩ := h
    refine ldX_5 X hP hin (dk DX11_takeBack 19 rfl) ?_
    refine lv_aload_n hx hb (dk DX11_takeBack 20 rfl) rfl (lv_at hl 2 rfl) ?_
    refine lv_iload_n hx hb (dk DX11_takeBack 21 rfl) rfl (lv_at hl 1 rfl) ?_
    refine lv_iconst (v := 2) hx hb (dk DX11_takeBack 22 rfl) (by decide) ?_
    refine lv_iadd hx hb (dk DX11_takeBack 23 rfl) ?_
    refine lv_iload_n hx hb (dk DX11_takeBack 24 rfl) rfl (lv_at hl 3 rfl) ?_
    refine lv_iadd hx hb (dk DX11_takeBack 25 rfl) ?_
    obtain ⟨hin, h⟩ := h
    refine ldX_16 X hP hin (dk DX11_takeBack 26 rfl) ?_
    refine lv_isub hx hb (dk DX11_takeBack 27 rfl) ?_
    refine lv_topi (fun v10 ev10 => ?_)
    have h := h v10 ev10
    obtain ⟨hin, h⟩ := h
    refine stX_5 X hP hD hS hin (dk DX11_takeBack 28 rfl) (fun S11 eS11 H locs hP hD hS => ?_)
    have h := h S11 eS11
    obtain ⟨v12, ev12⟩ : ∃ y : Int32, y = x3 + 1 := ⟨_, rfl⟩
    have h := h v12 ev12
    refine lv_iinc (v := v12) (lv' := [(3, .int v12), (0, .ref (q 0)), (1, .int x1), (2, .ref (q 16))]) hx hb (dk DX11_takeBack 29 rfl) hl (k := 3) rfl (by rw [ev12]; rfl) (by decide) rfl (fun ls hl => ?_)
    refine lv_goto (tgt := 13) hx hb (dk DX11_takeBack 30 rfl) (by decide) ?_
    exact hK0 x1 v12 S11 h _ _ hP hD hS ls (lv_sub hl [1, 2, 3, 0] rfl)
set_option maxHeartbeats 4000000 in
set_option maxRecDepth 100000 in
theorem m_X11_takeBack_0 {l : Launch} {dC : Nat → ClassId} {dI : Nat → Nat → Nat} {q : Nat → Nat} {cI cT : ClassId} {en : Nat → Nat} {sz : Nat} {Post : XS → Prop} (a0 : Int32) (S : XS) (h : VC_X11_takeBack_0 Post a0 S) : Met l yX11_takeBack ww_X11_takeBack_0 ({ frames := 1, cells := 0, slots := 0, locals := 21 } : Room) (va_Pc [.ref (q 0), .int a0] (preX dC dI q cI cT en S sz)) (va_Qv Post (atX dC dI q cI cT (va_A (wX q cI cT S) sz)) (va_A (wX q cI cT S) sz)) 0 0 (va_A (wX q cI cT S) sz) := by
  refine oX (cc := cX11_takeBack) (maxL := 4) (ret := none) (Qc := fun A => va_Qv Post (atX dC dI q cI cT A) A) (own := RX11) (by decide) rfl (fun w h => List.mem_cons_of_mem _ (List.mem_append_right _ h)) rfl (Nat.le_of_ble_eq_true rfl) (fun p e s m below meth c A ls X hr hlocks hP hD hS hl => ?_)
  have hx := X.1
  have hb := X.2.1
  have hl : lv_has ls 4 [(0, .ref (q 0)), (1, .int a0)] := hl
  have lk12 := X.2.2.2.2.1 (.fieldLink RX11 12 "BreathOnLoan" "now" "LBreathOnLoan$State;") (inX 568 rfl)
  have lk167 := X.2.2.2.2.1 (.fieldLink RX11 167 "BreathOnLoan$State" "steps" "LBreathOnLoan$Steps;") (inX 636 rfl)
  have lk303 := X.2.2.2.2.1 (.fieldLink RX11 303 "BreathOnLoan$Steps" "rows" "[I") (inX 648 rfl)
  have lk57 := X.2.2.2.2.1 (.fieldLink RX11 57 "BreathOnLoan$State" "crew" "LBreathOnLoan$Crew;") (inX 592 rfl)
  have lk256 := X.2.2.2.2.1 (.fieldLink RX11 256 "BreathOnLoan$Crew" "count" "I") (inX 672 rfl)
  have lk141 := X.2.2.2.2.1 (.fieldLink RX11 141 "BreathOnLoan$State" "bench" "LBreathOnLoan$Bench;") (inX 632 rfl)
  have lk210 := X.2.2.2.2.1 (.fieldLink RX11 210 "BreathOnLoan$Bench" "pieces" "I") (inX 633 rfl)
  have lk204 := X.2.2.2.2.1 (.fieldLink RX11 204 "BreathOnLoan$Bench" "bubbles" "I") (inX 649 rfl)
  have lk191 := X.2.2.2.2.1 (.fieldLink RX11 191 "BreathOnLoan$Bench" "hour" "I") (inX 650 rfl)
  have lk145 := X.2.2.2.2.1 (.fieldLink RX11 145 "BreathOnLoan$Bench" "sold" "[I") (inX 635 rfl)
  have lk188 := X.2.2.2.2.1 (.fieldLink RX11 188 "BreathOnLoan$Crew" "beads" "[I") (inX 647 rfl)
  generalize hargs : ([.ref (q 0), .int a0] : List Value).toArray = args at X ⊢
  have h := h (fun hd S => match hd with | (x1, x3) => ∀ (H : Heap) (locs : List Loc), va_P (dC, dI) vwCl (wX q cI cT S) H → va_D A (wX q cI cT S) → va_S A s.heap H locs → ∀ ls : Array Slot, lv_has ls 4 [(0, .ref (q 0)), (1, .int x1), (2, .ref (q 16)), (3, .int x3)] → W p l e (headSpec ww_X11_takeBack_0 ({ frames := 1, cells := 0, slots := 0, locals := 21 } : Room)).room s m args below meth c H locs 0 0 (MQ below (va_Qv Post (atX dC dI q cI cT A) A) args s 0 0 A) (F0 m 13 ls [])) ?_
  · skip
    refine lv_aload_n hx hb (dk DX11_takeBack 0 rfl) rfl (lv_at hl 0 rfl) ?_
    refine gX_0 X hP 0 (by decide) rfl lk12 (dk DX11_takeBack 1 rfl) ?_
    refine gX_1 X hP 3 (by decide) rfl lk167 (dk DX11_takeBack 2 rfl) ?_
    refine gX_15 X hP 2 (by decide) rfl lk303 (dk DX11_takeBack 3 rfl) ?_
    refine lv_astore_n (lv' := [(2, .ref (q 16)), (0, .ref (q 0)), (1, .int a0)]) hx hb (dk DX11_takeBack 4 rfl) rfl hl (by decide) rfl (fun ls hl => ?_)
    refine lv_iconst (v := 0) hx hb (dk DX11_takeBack 5 rfl) (by decide) ?_
    refine lv_istore_n (lv' := [(3, .int 0), (2, .ref (q 16)), (0, .ref (q 0)), (1, .int a0)]) hx hb (dk DX11_takeBack 6 rfl) rfl hl (by decide) rfl (fun ls hl => ?_)
    exact h _ _ hP hD hS ls (lv_sub hl [2, 3, 1, 0] rfl)
  · rintro ⟨x1, x3⟩ S hB
    exact h_X11_takeBack_0_0 X hr hlocks (hK0 := fun _ _ _ h => h) x1 x3 S hB

def ww_X11_undo_0 : List Cond := .code yX11_undo cX11_undo 2 (some .int) :: (WdX ++ WsX)
theorem q_X11_undo_0 : yX11_undo.cls = RX11 ∧ yX11_undo.cls ≠ "java/lang/invoke/MethodHandle" ∧ yX11_undo.cls ≠ "java/lang/invoke/VarHandle" ∧ (parseMethodDescriptor yX11_undo.desc).map (fun d => d.parameters.length) = some 0 := by decide +kernel
def VC_X11_undo_0 (Post : Int32 → XS → Prop) (S : XS) : Prop := VC_X6_pop_15 (fun r2 S1 => ((0 ≤ r2 → VC_X11_takeBack_0 (fun S3 => Post (S3.1 481) S3) r2 S1) ∧ (¬ 0 ≤ r2 → Post (-1) S1))) S
set_option maxHeartbeats 4000000 in
set_option maxRecDepth 100000 in
theorem m_X11_undo_0 {l : Launch} {dC : Nat → ClassId} {dI : Nat → Nat → Nat} {q : Nat → Nat} {cI cT : ClassId} {en : Nat → Nat} {sz : Nat} {Post : Int32 → XS → Prop} (S : XS) (h : VC_X11_undo_0 Post S) : Met l yX11_undo ww_X11_undo_0 ({ frames := 2, cells := 0, slots := 0, locals := 44 } : Room) (va_Pc [.ref (q 0)] (preX dC dI q cI cT en S sz)) (va_Qi Post (atX dC dI q cI cT (va_A (wX q cI cT S) sz)) (va_A (wX q cI cT S) sz)) 0 0 (va_A (wX q cI cT S) sz) := by
  refine oX (cc := cX11_undo) (maxL := 2) (ret := (some .int)) (Qc := fun A => va_Qi Post (atX dC dI q cI cT A) A) (own := RX11) (by decide) rfl (fun w h => List.mem_cons_of_mem _ (List.mem_append_right _ h)) rfl (Nat.le_of_ble_eq_true rfl) (fun p e s m below meth c A ls X hr hlocks hP hD hS hl => ?_)
  have hx := X.1
  have hb := X.2.1
  have hl : lv_has ls 2 [(0, .ref (q 0))] := hl
  have lk12 := X.2.2.2.2.1 (.fieldLink RX11 12 "BreathOnLoan" "now" "LBreathOnLoan$State;") (inX 568 rfl)
  have lk167 := X.2.2.2.2.1 (.fieldLink RX11 167 "BreathOnLoan$State" "steps" "LBreathOnLoan$Steps;") (inX 636 rfl)
  have lk179 := X.2.2.2.2.1 (.fieldLink RX11 179 "BreathOnLoan$Steps" "count" "I") (inX 699 rfl)
  dsimp only [VC_X11_undo_0] at h
  refine lv_aload_n hx hb (dk DX11_undo 0 rfl) rfl (lv_at hl 0 rfl) ?_
  refine gX_0 X hP 0 (by decide) rfl lk12 (dk DX11_undo 1 rfl) ?_
  refine gX_1 X hP 3 (by decide) rfl lk167 (dk DX11_undo 2 rfl) ?_
  refine cXi (As := []) (rest := []) X (m_X6_pop_15 (l := l) (dC := dC) (dI := dI) (q := q) (cI := cI) (cT := cT) (en := en) (sz := _) S h) (cwV 0 X.2.2.2.2.1 (gxV 700 701 702 497 551 rfl rfl rfl rfl rfl) rfl rfl rfl q_X6_pop_15 ⟨Nat.le_of_ble_eq_true rfl, Nat.le_of_ble_eq_true rfl⟩) (rX_15 X hP) hP hD hS rfl hl.1 rfl (Nat.le_of_ble_eq_true rfl) (dk DX11_undo 3 rfl) (fun r2 S1 H locs h hP hD hS => ?_)
  refine lv_istore_n (lv' := [(1, .int r2), (0, .ref (q 0))]) hx hb (dk DX11_undo 4 rfl) rfl hl (by decide) rfl (fun ls hl => ?_)
  refine lv_iload_n hx hb (dk DX11_undo 5 rfl) rfl (lv_at hl 0 rfl) ?_
  refine lv_if_ge (tgt := 17) hx hb (dk DX11_undo 6 rfl) (by decide) (fun hc => ?_) (fun hc => ?_)
  · have h := h.1 hc
    refine lv_aload_n hx hb (dk DX11_undo 9 rfl) rfl (lv_at hl 1 rfl) ?_
    refine lv_iload_n hx hb (dk DX11_undo 10 rfl) rfl (lv_at hl 0 rfl) ?_
    refine cXv (As := [.int r2]) (rest := []) X (m_X11_takeBack_0 (l := l) (dC := dC) (dI := dI) (q := q) (cI := cI) (cT := cT) (en := en) (sz := _) r2 S1 h) (cwV 1 X.2.2.2.2.1 (gxV 703 704 705 16 697 rfl rfl rfl rfl rfl) rfl rfl rfl q_X11_takeBack_0 ⟨Nat.le_of_ble_eq_true rfl, Nat.le_of_ble_eq_true rfl⟩) (rX_0 X hP) hP hD hS rfl hl.1 rfl (Nat.le_of_ble_eq_true rfl) (dk DX11_undo 11 rfl) (fun S3 H locs h hP hD hS => ?_)
    refine lv_aload_n hx hb (dk DX11_undo 12 rfl) rfl (lv_at hl 1 rfl) ?_
    refine gX_0 X hP 0 (by decide) rfl lk12 (dk DX11_undo 13 rfl) ?_
    refine gX_1 X hP 3 (by decide) rfl lk167 (dk DX11_undo 14 rfl) ?_
    refine gX_15 X hP 1 (by decide) rfl lk179 (dk DX11_undo 15 rfl) ?_
    exact W.iret (v := (S3.1 481)) hx hb hr (fun t ht hW => ⟨⟨_, _, rfl, h, by rw [ht]; exact hP, va_K.moved hW.alike X.2.2.2.2.2.2.1, hD⟩, hS.F ht⟩) hS.2.2 (dk DX11_undo 16 rfl)
  · have h := h.2 hc
    refine lv_iconst (v := (-1)) hx hb (dk DX11_undo 7 rfl) (by decide) ?_
    exact W.iret (v := (-1)) hx hb hr (fun t ht hW => ⟨⟨_, _, rfl, h, by rw [ht]; exact hP, va_K.moved hW.alike X.2.2.2.2.2.2.1, hD⟩, hS.F ht⟩) hS.2.2 (dk DX11_undo 8 rfl)

def ww_X11_of_0 : List Cond := .code yX11_of cX11_of 4 (some .int) :: (WdX ++ WsX)
theorem q_X11_of_0 : yX11_of.cls = RX11 ∧ yX11_of.cls ≠ "java/lang/invoke/MethodHandle" ∧ yX11_of.cls ≠ "java/lang/invoke/VarHandle" ∧ (parseMethodDescriptor yX11_of.desc).map (fun d => d.parameters.length) = some 2 := by decide +kernel
def VC_X11_of_0 (Post : Int32 → XS → Prop) (a0 : Int32) (a1 : Int32) (S : XS) : Prop := VC_X1_has_2 (fun r2 S1 => ((¬ r2 = 0 → ((a1 = 0 → vp_in a0 6 ∧ Post ((S1.2.1 3) a0.toNatClampNeg) S1) ∧ (a1 = 1 → vp_in a0 6 ∧ Post ((S1.2.1 4) a0.toNatClampNeg) S1) ∧ (a1 = 2 → vp_in a0 6 ∧ Post ((S1.2.1 5) a0.toNatClampNeg) S1) ∧ (a1 = 3 → VC_X0_sum_11 (fun r4 S3 => Post r4 S3) (-1) a0 (S1.1 352) S1) ∧ (a1 = 4 → vp_in a0 6 ∧ Post ((S1.2.1 6) a0.toNatClampNeg) S1) ∧ (¬ a1 = 0 → ¬ a1 = 1 → ¬ a1 = 2 → ¬ a1 = 3 → ¬ a1 = 4 → Post (-1) S1))) ∧ (r2 = 0 → Post (-1) S1))) a0 S
set_option maxHeartbeats 4000000 in
set_option maxRecDepth 100000 in
theorem m_X11_of_0 {l : Launch} {dC : Nat → ClassId} {dI : Nat → Nat → Nat} {q : Nat → Nat} {cI cT : ClassId} {en : Nat → Nat} {sz : Nat} {Post : Int32 → XS → Prop} (a0 : Int32) (a1 : Int32) (S : XS) (h : VC_X11_of_0 Post a0 a1 S) : Met l yX11_of ww_X11_of_0 ({ frames := 2, cells := 0, slots := 0, locals := 49 } : Room) (va_Pc [.ref (q 0), .int a0, .int a1] (preX dC dI q cI cT en S sz)) (va_Qi Post (atX dC dI q cI cT (va_A (wX q cI cT S) sz)) (va_A (wX q cI cT S) sz)) 0 0 (va_A (wX q cI cT S) sz) := by
  refine oX (cc := cX11_of) (maxL := 4) (ret := (some .int)) (Qc := fun A => va_Qi Post (atX dC dI q cI cT A) A) (own := RX11) (by decide) rfl (fun w h => List.mem_cons_of_mem _ (List.mem_append_right _ h)) rfl (Nat.le_of_ble_eq_true rfl) (fun p e s m below meth c A ls X hr hlocks hP hD hS hl => ?_)
  have hx := X.1
  have hb := X.2.1
  have hl : lv_has ls 4 [(0, .ref (q 0)), (1, .int a0), (2, .int a1)] := hl
  have lk12 := X.2.2.2.2.1 (.fieldLink RX11 12 "BreathOnLoan" "now" "LBreathOnLoan$State;") (inX 568 rfl)
  have lk57 := X.2.2.2.2.1 (.fieldLink RX11 57 "BreathOnLoan$State" "crew" "LBreathOnLoan$Crew;") (inX 592 rfl)
  have lk182 := X.2.2.2.2.1 (.fieldLink RX11 182 "BreathOnLoan$Crew" "lungs" "[I") (inX 651 rfl)
  have lk185 := X.2.2.2.2.1 (.fieldLink RX11 185 "BreathOnLoan$Crew" "voice" "[I") (inX 708 rfl)
  have lk188 := X.2.2.2.2.1 (.fieldLink RX11 188 "BreathOnLoan$Crew" "beads" "[I") (inX 647 rfl)
  have lk141 := X.2.2.2.2.1 (.fieldLink RX11 141 "BreathOnLoan$State" "bench" "LBreathOnLoan$Bench;") (inX 632 rfl)
  have lk191 := X.2.2.2.2.1 (.fieldLink RX11 191 "BreathOnLoan$Bench" "hour" "I") (inX 650 rfl)
  have lk197 := X.2.2.2.2.1 (.fieldLink RX11 197 "BreathOnLoan$Crew" "foes" "[I") (inX 709 rfl)
  dsimp only [VC_X11_of_0] at h
  refine lv_aload_n hx hb (dk DX11_of 0 rfl) rfl (lv_at hl 0 rfl) ?_
  refine gX_0 X hP 0 (by decide) rfl lk12 (dk DX11_of 1 rfl) ?_
  refine gX_1 X hP 0 (by decide) rfl lk57 (dk DX11_of 2 rfl) ?_
  refine lv_astore_n (lv' := [(3, .ref (q 2)), (0, .ref (q 0)), (1, .int a0), (2, .int a1)]) hx hb (dk DX11_of 3 rfl) rfl hl (by decide) rfl (fun ls hl => ?_)
  refine lv_aload_n hx hb (dk DX11_of 4 rfl) rfl (lv_at hl 0 rfl) ?_
  refine lv_iload_n hx hb (dk DX11_of 5 rfl) rfl (lv_at hl 2 rfl) ?_
  refine cXi (As := [.int a0]) (rest := []) X (m_X1_has_2 (l := l) (dC := dC) (dI := dI) (q := q) (cI := cI) (cT := cT) (en := en) (sz := _) a0 S h) (cwV 1 X.2.2.2.2.1 (gxV 598 40 41 42 35 rfl rfl rfl rfl rfl) rfl rfl rfl q_X1_has_2 ⟨Nat.le_of_ble_eq_true rfl, Nat.le_of_ble_eq_true rfl⟩) (rX_2 X hP) hP hD hS rfl hl.1 rfl (Nat.le_of_ble_eq_true rfl) (dk DX11_of 6 rfl) (fun r2 S1 H locs h hP hD hS => ?_)
  refine lv_if_ne (tgt := 18) hx hb (dk DX11_of 7 rfl) (by decide) (fun hc => ?_) (fun hc => ?_)
  · have h := h.1 hc
    refine lv_iload_n hx hb (dk DX11_of 10 rfl) rfl (lv_at hl 3 rfl) ?_
    by_cases hc0 : a1 = 0
    · have h := h.1 hc0
      refine lv_tableIn (off := 33) (tgt := 52) hx hb (dk DX11_of 11 rfl) (by rw [hc0]; decide) (by rw [hc0]; decide) (by rw [hc0]; decide) (by decide) ?_
      refine lv_aload_n hx hb (dk DX11_of 12 rfl) rfl (lv_at hl 0 rfl) ?_
      refine gX_2 X hP 1 (by decide) rfl lk182 (dk DX11_of 13 rfl) ?_
      refine lv_iload_n hx hb (dk DX11_of 14 rfl) rfl (lv_at hl 2 rfl) ?_
      obtain ⟨hin, h⟩ := h
      refine ldX_3 X hP hin (dk DX11_of 15 rfl) ?_
      exact W.iret (v := (S1.2.1 3) a0.toNatClampNeg) hx hb hr (fun t ht hW => ⟨⟨_, _, rfl, h, by rw [ht]; exact hP, va_K.moved hW.alike X.2.2.2.2.2.2.1, hD⟩, hS.F ht⟩) hS.2.2 (dk DX11_of 16 rfl)
    have h := h.2
    by_cases hc1 : a1 = 1
    · have h := h.1 hc1
      refine lv_tableIn (off := 40) (tgt := 59) hx hb (dk DX11_of 11 rfl) (by rw [hc1]; decide) (by rw [hc1]; decide) (by rw [hc1]; decide) (by decide) ?_
      refine lv_aload_n hx hb (dk DX11_of 17 rfl) rfl (lv_at hl 0 rfl) ?_
      refine gX_2 X hP 2 (by decide) rfl lk185 (dk DX11_of 18 rfl) ?_
      refine lv_iload_n hx hb (dk DX11_of 19 rfl) rfl (lv_at hl 2 rfl) ?_
      obtain ⟨hin, h⟩ := h
      refine ldX_4 X hP hin (dk DX11_of 20 rfl) ?_
      exact W.iret (v := (S1.2.1 4) a0.toNatClampNeg) hx hb hr (fun t ht hW => ⟨⟨_, _, rfl, h, by rw [ht]; exact hP, va_K.moved hW.alike X.2.2.2.2.2.2.1, hD⟩, hS.F ht⟩) hS.2.2 (dk DX11_of 21 rfl)
    have h := h.2
    by_cases hc2 : a1 = 2
    · have h := h.1 hc2
      refine lv_tableIn (off := 47) (tgt := 66) hx hb (dk DX11_of 11 rfl) (by rw [hc2]; decide) (by rw [hc2]; decide) (by rw [hc2]; decide) (by decide) ?_
      refine lv_aload_n hx hb (dk DX11_of 22 rfl) rfl (lv_at hl 0 rfl) ?_
      refine gX_2 X hP 3 (by decide) rfl lk188 (dk DX11_of 23 rfl) ?_
      refine lv_iload_n hx hb (dk DX11_of 24 rfl) rfl (lv_at hl 2 rfl) ?_
      obtain ⟨hin, h⟩ := h
      refine ldX_5 X hP hin (dk DX11_of 25 rfl) ?_
      exact W.iret (v := (S1.2.1 5) a0.toNatClampNeg) hx hb hr (fun t ht hW => ⟨⟨_, _, rfl, h, by rw [ht]; exact hP, va_K.moved hW.alike X.2.2.2.2.2.2.1, hD⟩, hS.F ht⟩) hS.2.2 (dk DX11_of 26 rfl)
    have h := h.2
    by_cases hc3 : a1 = 3
    · have h := h.1 hc3
      refine lv_tableIn (off := 54) (tgt := 73) hx hb (dk DX11_of 11 rfl) (by rw [hc3]; decide) (by rw [hc3]; decide) (by rw [hc3]; decide) (by decide) ?_
      refine lv_aload_n hx hb (dk DX11_of 27 rfl) rfl (lv_at hl 1 rfl) ?_
      refine gX_0 X hP 0 (by decide) rfl lk12 (dk DX11_of 28 rfl) ?_
      refine gX_1 X hP 2 (by decide) rfl lk141 (dk DX11_of 29 rfl) ?_
      refine lv_iconst (v := (-1)) hx hb (dk DX11_of 30 rfl) (by decide) ?_
      refine lv_iload_n hx hb (dk DX11_of 31 rfl) rfl (lv_at hl 2 rfl) ?_
      refine lv_aload_n hx hb (dk DX11_of 32 rfl) rfl (lv_at hl 1 rfl) ?_
      refine gX_0 X hP 0 (by decide) rfl lk12 (dk DX11_of 33 rfl) ?_
      refine gX_1 X hP 2 (by decide) rfl lk141 (dk DX11_of 34 rfl) ?_
      refine gX_11 X hP 0 (by decide) rfl lk191 (dk DX11_of 35 rfl) ?_
      refine cXi (As := [.int (-1), .int a0, .int (S1.1 352)]) (rest := []) X (m_X0_sum_11 (l := l) (dC := dC) (dI := dI) (q := q) (cI := cI) (cT := cT) (en := en) (sz := _) (-1) a0 (S1.1 352) S1 h) (cwV 3 X.2.2.2.2.1 (gxV 655 164 165 146 14 rfl rfl rfl rfl rfl) rfl rfl rfl q_X0_sum_11 ⟨Nat.le_of_ble_eq_true rfl, Nat.le_of_ble_eq_true rfl⟩) (rX_11 X hP) hP hD hS rfl hl.1 rfl (Nat.le_of_ble_eq_true rfl) (dk DX11_of 36 rfl) (fun r4 S3 H locs h hP hD hS => ?_)
      exact W.iret (v := r4) hx hb hr (fun t ht hW => ⟨⟨_, _, rfl, h, by rw [ht]; exact hP, va_K.moved hW.alike X.2.2.2.2.2.2.1, hD⟩, hS.F ht⟩) hS.2.2 (dk DX11_of 37 rfl)
    have h := h.2
    by_cases hc4 : a1 = 4
    · have h := h.1 hc4
      refine lv_tableIn (off := 77) (tgt := 96) hx hb (dk DX11_of 11 rfl) (by rw [hc4]; decide) (by rw [hc4]; decide) (by rw [hc4]; decide) (by decide) ?_
      refine lv_aload_n hx hb (dk DX11_of 38 rfl) rfl (lv_at hl 0 rfl) ?_
      refine gX_2 X hP 4 (by decide) rfl lk197 (dk DX11_of 39 rfl) ?_
      refine lv_iload_n hx hb (dk DX11_of 40 rfl) rfl (lv_at hl 2 rfl) ?_
      obtain ⟨hin, h⟩ := h
      refine ldX_6 X hP hin (dk DX11_of 41 rfl) ?_
      exact W.iret (v := (S1.2.1 6) a0.toNatClampNeg) hx hb hr (fun t ht hW => ⟨⟨_, _, rfl, h, by rw [ht]; exact hP, va_K.moved hW.alike X.2.2.2.2.2.2.1, hD⟩, hS.F ht⟩) hS.2.2 (dk DX11_of 42 rfl)
    have h := h.2
    have h := h hc0 hc1 hc2 hc3 hc4
    refine lv_tableOut (tgt := 103) hx hb (dk DX11_of 11 rfl) (by have n0 := lv_neT hc0 (a := 0) (by decide); have n1 := lv_neT hc1 (a := 1) (by decide); have n2 := lv_neT hc2 (a := 2) (by decide); have n3 := lv_neT hc3 (a := 3) (by decide); have n4 := lv_neT hc4 (a := 4) (by decide); omega) (by decide) ?_
    refine lv_iconst (v := (-1)) hx hb (dk DX11_of 43 rfl) (by decide) ?_
    exact W.iret (v := (-1)) hx hb hr (fun t ht hW => ⟨⟨_, _, rfl, h, by rw [ht]; exact hP, va_K.moved hW.alike X.2.2.2.2.2.2.1, hD⟩, hS.F ht⟩) hS.2.2 (dk DX11_of 44 rfl)
  · have h := h.2 hc
    refine lv_iconst (v := (-1)) hx hb (dk DX11_of 8 rfl) (by decide) ?_
    exact W.iret (v := (-1)) hx hb hr (fun t ht hW => ⟨⟨_, _, rfl, h, by rw [ht]; exact hP, va_K.moved hW.alike X.2.2.2.2.2.2.1, hD⟩, hS.F ht⟩) hS.2.2 (dk DX11_of 9 rfl)

def ww_X11_piece_0 : List Cond := .code yX11_piece cX11_piece 4 (some .int) :: (WdX ++ WsX)
theorem q_X11_piece_0 : yX11_piece.cls = RX11 ∧ yX11_piece.cls ≠ "java/lang/invoke/MethodHandle" ∧ yX11_piece.cls ≠ "java/lang/invoke/VarHandle" ∧ (parseMethodDescriptor yX11_piece.desc).map (fun d => d.parameters.length) = some 2 := by decide +kernel
def VC_X11_piece_0 (Post : Int32 → XS → Prop) (a0 : Int32) (a1 : Int32) (S : XS) : Prop := VC_X0_has_11 (fun r2 S1 => ((¬ r2 = 0 → ((a1 = 0 → vp_in a0 10 ∧ Post ((S1.2.1 12) a0.toNatClampNeg) S1) ∧ (a1 = 1 → VC_X5_stateOf_1 (fun r4 S3 => Post r4 S3) a0 S1) ∧ (a1 = 2 → VC_X0_sum_11 (fun r6 S5 => Post r6 S5) a0 (-1) (-1) S1) ∧ (a1 = 3 → vp_in a0 10 ∧ Post ((S1.2.1 13) a0.toNatClampNeg) S1) ∧ (¬ a1 = 0 → ¬ a1 = 1 → ¬ a1 = 2 → ¬ a1 = 3 → ((a1 < 10 → Post (-1) S1) ∧ (¬ a1 < 10 → VC_X1_has_2 (fun r8 S7 => ((r8 = 0 → Post (-1) S7) ∧ (¬ r8 = 0 → VC_X0_sum_11 (fun r10 S9 => Post r10 S9) a0 (a1 - 10) (-1) S7))) (a1 - 10) S1))))) ∧ (r2 = 0 → Post (-1) S1))) a0 S
set_option maxHeartbeats 4000000 in
set_option maxRecDepth 100000 in
theorem m_X11_piece_0 {l : Launch} {dC : Nat → ClassId} {dI : Nat → Nat → Nat} {q : Nat → Nat} {cI cT : ClassId} {en : Nat → Nat} {sz : Nat} {Post : Int32 → XS → Prop} (a0 : Int32) (a1 : Int32) (S : XS) (h : VC_X11_piece_0 Post a0 a1 S) : Met l yX11_piece ww_X11_piece_0 ({ frames := 3, cells := 0, slots := 0, locals := 73 } : Room) (va_Pc [.ref (q 0), .int a0, .int a1] (preX dC dI q cI cT en S sz)) (va_Qi Post (atX dC dI q cI cT (va_A (wX q cI cT S) sz)) (va_A (wX q cI cT S) sz)) 0 0 (va_A (wX q cI cT S) sz) := by
  refine oX (cc := cX11_piece) (maxL := 4) (ret := (some .int)) (Qc := fun A => va_Qi Post (atX dC dI q cI cT A) A) (own := RX11) (by decide) rfl (fun w h => List.mem_cons_of_mem _ (List.mem_append_right _ h)) rfl (Nat.le_of_ble_eq_true rfl) (fun p e s m below meth c A ls X hr hlocks hP hD hS hl => ?_)
  have hx := X.1
  have hb := X.2.1
  have hl : lv_has ls 4 [(0, .ref (q 0)), (1, .int a0), (2, .int a1)] := hl
  have lk12 := X.2.2.2.2.1 (.fieldLink RX11 12 "BreathOnLoan" "now" "LBreathOnLoan$State;") (inX 568 rfl)
  have lk141 := X.2.2.2.2.1 (.fieldLink RX11 141 "BreathOnLoan$State" "bench" "LBreathOnLoan$Bench;") (inX 632 rfl)
  have lk201 := X.2.2.2.2.1 (.fieldLink RX11 201 "BreathOnLoan$Bench" "kindOf" "[I") (inX 634 rfl)
  have lk145 := X.2.2.2.2.1 (.fieldLink RX11 145 "BreathOnLoan$Bench" "sold" "[I") (inX 635 rfl)
  have lk57 := X.2.2.2.2.1 (.fieldLink RX11 57 "BreathOnLoan$State" "crew" "LBreathOnLoan$Crew;") (inX 592 rfl)
  dsimp only [VC_X11_piece_0] at h
  refine lv_aload_n hx hb (dk DX11_piece 0 rfl) rfl (lv_at hl 0 rfl) ?_
  refine gX_0 X hP 0 (by decide) rfl lk12 (dk DX11_piece 1 rfl) ?_
  refine gX_1 X hP 2 (by decide) rfl lk141 (dk DX11_piece 2 rfl) ?_
  refine lv_astore_n (lv' := [(3, .ref (q 11)), (0, .ref (q 0)), (1, .int a0), (2, .int a1)]) hx hb (dk DX11_piece 3 rfl) rfl hl (by decide) rfl (fun ls hl => ?_)
  refine lv_aload_n hx hb (dk DX11_piece 4 rfl) rfl (lv_at hl 0 rfl) ?_
  refine lv_iload_n hx hb (dk DX11_piece 5 rfl) rfl (lv_at hl 2 rfl) ?_
  refine cXi (As := [.int a0]) (rest := []) X (m_X0_has_11 (l := l) (dC := dC) (dI := dI) (q := q) (cI := cI) (cT := cT) (en := en) (sz := _) a0 S h) (cwV 1 X.2.2.2.2.1 (gxV 698 144 145 146 8 rfl rfl rfl rfl rfl) rfl rfl rfl q_X0_has_11 ⟨Nat.le_of_ble_eq_true rfl, Nat.le_of_ble_eq_true rfl⟩) (rX_11 X hP) hP hD hS rfl hl.1 rfl (Nat.le_of_ble_eq_true rfl) (dk DX11_piece 6 rfl) (fun r2 S1 H locs h hP hD hS => ?_)
  refine lv_if_ne (tgt := 18) hx hb (dk DX11_piece 7 rfl) (by decide) (fun hc => ?_) (fun hc => ?_)
  · have h := h.1 hc
    refine lv_iload_n hx hb (dk DX11_piece 10 rfl) rfl (lv_at hl 3 rfl) ?_
    by_cases hc0 : a1 = 0
    · have h := h.1 hc0
      refine lv_tableIn (off := 29) (tgt := 48) hx hb (dk DX11_piece 11 rfl) (by rw [hc0]; decide) (by rw [hc0]; decide) (by rw [hc0]; decide) (by decide) ?_
      refine lv_aload_n hx hb (dk DX11_piece 12 rfl) rfl (lv_at hl 0 rfl) ?_
      refine gX_11 X hP 2 (by decide) rfl lk201 (dk DX11_piece 13 rfl) ?_
      refine lv_iload_n hx hb (dk DX11_piece 14 rfl) rfl (lv_at hl 2 rfl) ?_
      obtain ⟨hin, h⟩ := h
      refine ldX_12 X hP hin (dk DX11_piece 15 rfl) ?_
      exact W.iret (v := (S1.2.1 12) a0.toNatClampNeg) hx hb hr (fun t ht hW => ⟨⟨_, _, rfl, h, by rw [ht]; exact hP, va_K.moved hW.alike X.2.2.2.2.2.2.1, hD⟩, hS.F ht⟩) hS.2.2 (dk DX11_piece 16 rfl)
    have h := h.2
    by_cases hc1 : a1 = 1
    · have h := h.1 hc1
      refine lv_tableIn (off := 36) (tgt := 55) hx hb (dk DX11_piece 11 rfl) (by rw [hc1]; decide) (by rw [hc1]; decide) (by rw [hc1]; decide) (by decide) ?_
      refine lv_aload_n hx hb (dk DX11_piece 17 rfl) rfl (lv_at hl 1 rfl) ?_
      refine gX_0 X hP 0 (by decide) rfl lk12 (dk DX11_piece 18 rfl) ?_
      refine lv_iload_n hx hb (dk DX11_piece 19 rfl) rfl (lv_at hl 2 rfl) ?_
      refine cXi (As := [.int a0]) (rest := []) X (m_X5_stateOf_1 (l := l) (dC := dC) (dI := dI) (q := q) (cI := cI) (cT := cT) (en := en) (sz := _) a0 S1 h) (cwV 1 X.2.2.2.2.1 (gxV 652 653 654 67 520 rfl rfl rfl rfl rfl) rfl rfl rfl q_X5_stateOf_1 ⟨Nat.le_of_ble_eq_true rfl, Nat.le_of_ble_eq_true rfl⟩) (rX_1 X hP) hP hD hS rfl hl.1 rfl (Nat.le_of_ble_eq_true rfl) (dk DX11_piece 20 rfl) (fun r4 S3 H locs h hP hD hS => ?_)
      exact W.iret (v := r4) hx hb hr (fun t ht hW => ⟨⟨_, _, rfl, h, by rw [ht]; exact hP, va_K.moved hW.alike X.2.2.2.2.2.2.1, hD⟩, hS.F ht⟩) hS.2.2 (dk DX11_piece 21 rfl)
    have h := h.2
    by_cases hc2 : a1 = 2
    · have h := h.1 hc2
      refine lv_tableIn (off := 45) (tgt := 64) hx hb (dk DX11_piece 11 rfl) (by rw [hc2]; decide) (by rw [hc2]; decide) (by rw [hc2]; decide) (by decide) ?_
      refine lv_aload_n hx hb (dk DX11_piece 22 rfl) rfl (lv_at hl 0 rfl) ?_
      refine lv_iload_n hx hb (dk DX11_piece 23 rfl) rfl (lv_at hl 2 rfl) ?_
      refine lv_iconst (v := (-1)) hx hb (dk DX11_piece 24 rfl) (by decide) ?_
      refine lv_iconst (v := (-1)) hx hb (dk DX11_piece 25 rfl) (by decide) ?_
      refine cXi (As := [.int a0, .int (-1), .int (-1)]) (rest := []) X (m_X0_sum_11 (l := l) (dC := dC) (dI := dI) (q := q) (cI := cI) (cT := cT) (en := en) (sz := _) a0 (-1) (-1) S1 h) (cwV 3 X.2.2.2.2.1 (gxV 655 164 165 146 14 rfl rfl rfl rfl rfl) rfl rfl rfl q_X0_sum_11 ⟨Nat.le_of_ble_eq_true rfl, Nat.le_of_ble_eq_true rfl⟩) (rX_11 X hP) hP hD hS rfl hl.1 rfl (Nat.le_of_ble_eq_true rfl) (dk DX11_piece 26 rfl) (fun r6 S5 H locs h hP hD hS => ?_)
      exact W.iret (v := r6) hx hb hr (fun t ht hW => ⟨⟨_, _, rfl, h, by rw [ht]; exact hP, va_K.moved hW.alike X.2.2.2.2.2.2.1, hD⟩, hS.F ht⟩) hS.2.2 (dk DX11_piece 27 rfl)
    have h := h.2
    by_cases hc3 : a1 = 3
    · have h := h.1 hc3
      refine lv_tableIn (off := 53) (tgt := 72) hx hb (dk DX11_piece 11 rfl) (by rw [hc3]; decide) (by rw [hc3]; decide) (by rw [hc3]; decide) (by decide) ?_
      refine lv_aload_n hx hb (dk DX11_piece 28 rfl) rfl (lv_at hl 0 rfl) ?_
      refine gX_11 X hP 3 (by decide) rfl lk145 (dk DX11_piece 29 rfl) ?_
      refine lv_iload_n hx hb (dk DX11_piece 30 rfl) rfl (lv_at hl 2 rfl) ?_
      obtain ⟨hin, h⟩ := h
      refine ldX_13 X hP hin (dk DX11_piece 31 rfl) ?_
      exact W.iret (v := (S1.2.1 13) a0.toNatClampNeg) hx hb hr (fun t ht hW => ⟨⟨_, _, rfl, h, by rw [ht]; exact hP, va_K.moved hW.alike X.2.2.2.2.2.2.1, hD⟩, hS.F ht⟩) hS.2.2 (dk DX11_piece 32 rfl)
    have h := h.2
    have h := h hc0 hc1 hc2 hc3
    refine lv_tableOut (tgt := 79) hx hb (dk DX11_piece 11 rfl) (by have n0 := lv_neT hc0 (a := 0) (by decide); have n1 := lv_neT hc1 (a := 1) (by decide); have n2 := lv_neT hc2 (a := 2) (by decide); have n3 := lv_neT hc3 (a := 3) (by decide); omega) (by decide) ?_
    refine lv_iload_n hx hb (dk DX11_piece 33 rfl) rfl (lv_at hl 3 rfl) ?_
    refine lv_bipush (v := 10) hx hb (dk DX11_piece 34 rfl) (by decide) ?_
    refine lv_icmp_lt (tgt := 115) hx hb (dk DX11_piece 35 rfl) (by decide) (fun hc => ?_) (fun hc => ?_)
    · have h := h.1 hc
      refine lv_iconst (v := (-1)) hx hb (dk DX11_piece 52 rfl) (by decide) ?_
      exact W.iret (v := (-1)) hx hb hr (fun t ht hW => ⟨⟨_, _, rfl, h, by rw [ht]; exact hP, va_K.moved hW.alike X.2.2.2.2.2.2.1, hD⟩, hS.F ht⟩) hS.2.2 (dk DX11_piece 53 rfl)
    · have h := h.2 hc
      refine lv_aload_n hx hb (dk DX11_piece 36 rfl) rfl (lv_at hl 1 rfl) ?_
      refine gX_0 X hP 0 (by decide) rfl lk12 (dk DX11_piece 37 rfl) ?_
      refine gX_1 X hP 0 (by decide) rfl lk57 (dk DX11_piece 38 rfl) ?_
      refine lv_iload_n hx hb (dk DX11_piece 39 rfl) rfl (lv_at hl 3 rfl) ?_
      refine lv_bipush (v := 10) hx hb (dk DX11_piece 40 rfl) (by decide) ?_
      refine lv_isub hx hb (dk DX11_piece 41 rfl) ?_
      refine cXi (As := [.int (a1 - 10)]) (rest := []) X (m_X1_has_2 (l := l) (dC := dC) (dI := dI) (q := q) (cI := cI) (cT := cT) (en := en) (sz := _) (a1 - 10) S1 h) (cwV 1 X.2.2.2.2.1 (gxV 598 40 41 42 35 rfl rfl rfl rfl rfl) rfl rfl rfl q_X1_has_2 ⟨Nat.le_of_ble_eq_true rfl, Nat.le_of_ble_eq_true rfl⟩) (rX_2 X hP) hP hD hS rfl hl.1 rfl (Nat.le_of_ble_eq_true rfl) (dk DX11_piece 42 rfl) (fun r8 S7 H locs h hP hD hS => ?_)
      refine lv_if_eq (tgt := 115) hx hb (dk DX11_piece 43 rfl) (by decide) (fun hc => ?_) (fun hc => ?_)
      · have h := h.1 hc
        refine lv_iconst (v := (-1)) hx hb (dk DX11_piece 52 rfl) (by decide) ?_
        exact W.iret (v := (-1)) hx hb hr (fun t ht hW => ⟨⟨_, _, rfl, h, by rw [ht]; exact hP, va_K.moved hW.alike X.2.2.2.2.2.2.1, hD⟩, hS.F ht⟩) hS.2.2 (dk DX11_piece 53 rfl)
      · have h := h.2 hc
        refine lv_aload_n hx hb (dk DX11_piece 44 rfl) rfl (lv_at hl 0 rfl) ?_
        refine lv_iload_n hx hb (dk DX11_piece 45 rfl) rfl (lv_at hl 2 rfl) ?_
        refine lv_iload_n hx hb (dk DX11_piece 46 rfl) rfl (lv_at hl 3 rfl) ?_
        refine lv_bipush (v := 10) hx hb (dk DX11_piece 47 rfl) (by decide) ?_
        refine lv_isub hx hb (dk DX11_piece 48 rfl) ?_
        refine lv_iconst (v := (-1)) hx hb (dk DX11_piece 49 rfl) (by decide) ?_
        refine cXi (As := [.int a0, .int (a1 - 10), .int (-1)]) (rest := []) X (m_X0_sum_11 (l := l) (dC := dC) (dI := dI) (q := q) (cI := cI) (cT := cT) (en := en) (sz := _) a0 (a1 - 10) (-1) S7 h) (cwV 3 X.2.2.2.2.1 (gxV 655 164 165 146 14 rfl rfl rfl rfl rfl) rfl rfl rfl q_X0_sum_11 ⟨Nat.le_of_ble_eq_true rfl, Nat.le_of_ble_eq_true rfl⟩) (rX_11 X hP) hP hD hS rfl hl.1 rfl (Nat.le_of_ble_eq_true rfl) (dk DX11_piece 50 rfl) (fun r10 S9 H locs h hP hD hS => ?_)
        refine lv_goto (tgt := 116) hx hb (dk DX11_piece 51 rfl) (by decide) ?_
        exact W.iret (v := r10) hx hb hr (fun t ht hW => ⟨⟨_, _, rfl, h, by rw [ht]; exact hP, va_K.moved hW.alike X.2.2.2.2.2.2.1, hD⟩, hS.F ht⟩) hS.2.2 (dk DX11_piece 53 rfl)
  · have h := h.2 hc
    refine lv_iconst (v := (-1)) hx hb (dk DX11_piece 8 rfl) (by decide) ?_
    exact W.iret (v := (-1)) hx hb hr (fun t ht hW => ⟨⟨_, _, rfl, h, by rw [ht]; exact hP, va_K.moved hW.alike X.2.2.2.2.2.2.1, hD⟩, hS.F ht⟩) hS.2.2 (dk DX11_piece 9 rfl)

def ww_X11_bubble_0 : List Cond := .code yX11_bubble cX11_bubble 3 (some .int) :: (WdX ++ WsX)
theorem q_X11_bubble_0 : yX11_bubble.cls = RX11 ∧ yX11_bubble.cls ≠ "java/lang/invoke/MethodHandle" ∧ yX11_bubble.cls ≠ "java/lang/invoke/VarHandle" ∧ (parseMethodDescriptor yX11_bubble.desc).map (fun d => d.parameters.length) = some 2 := by decide +kernel
def VC_X11_bubble_0 (Post : Int32 → XS → Prop) (a0 : Int32) (a1 : Int32) (S : XS) : Prop := ((¬ a0 = (-1) → VC_X11_within (fun r1 => ((r1 = 0 → Post (-1) S) ∧ (¬ r1 = 0 → VC_X11_within (fun r2 => ((¬ r2 = 0 → vp_in ((4 * a0) + a1) 160 ∧ Post ((S.2.1 14) ((4 * a0) + a1).toNatClampNeg) S) ∧ (r2 = 0 → Post (-1) S))) a1 0 3))) a0 0 ((S.1 356) - 1)) ∧ (a0 = (-1) → Post (S.1 356) S))
set_option maxHeartbeats 4000000 in
set_option maxRecDepth 100000 in
theorem m_X11_bubble_0 {l : Launch} {dC : Nat → ClassId} {dI : Nat → Nat → Nat} {q : Nat → Nat} {cI cT : ClassId} {en : Nat → Nat} {sz : Nat} {Post : Int32 → XS → Prop} (a0 : Int32) (a1 : Int32) (S : XS) (h : VC_X11_bubble_0 Post a0 a1 S) : Met l yX11_bubble ww_X11_bubble_0 ({ frames := 1, cells := 0, slots := 0, locals := 22 } : Room) (va_Pc [.ref (q 0), .int a0, .int a1] (preX dC dI q cI cT en S sz)) (va_Qi Post (atX dC dI q cI cT (va_A (wX q cI cT S) sz)) (va_A (wX q cI cT S) sz)) 0 0 (va_A (wX q cI cT S) sz) := by
  refine oX (cc := cX11_bubble) (maxL := 3) (ret := (some .int)) (Qc := fun A => va_Qi Post (atX dC dI q cI cT A) A) (own := RX11) (by decide) rfl (fun w h => List.mem_cons_of_mem _ (List.mem_append_right _ h)) rfl (Nat.le_of_ble_eq_true rfl) (fun p e s m below meth c A ls X hr hlocks hP hD hS hl => ?_)
  have hx := X.1
  have hb := X.2.1
  have hl : lv_has ls 3 [(0, .ref (q 0)), (1, .int a0), (2, .int a1)] := hl
  have lk12 := X.2.2.2.2.1 (.fieldLink RX11 12 "BreathOnLoan" "now" "LBreathOnLoan$State;") (inX 568 rfl)
  have lk141 := X.2.2.2.2.1 (.fieldLink RX11 141 "BreathOnLoan$State" "bench" "LBreathOnLoan$Bench;") (inX 632 rfl)
  have lk204 := X.2.2.2.2.1 (.fieldLink RX11 204 "BreathOnLoan$Bench" "bubbles" "I") (inX 649 rfl)
  have lk207 := X.2.2.2.2.1 (.fieldLink RX11 207 "BreathOnLoan$Bench" "log" "[I") (inX 712 rfl)
  dsimp only [VC_X11_bubble_0] at h
  refine lv_iload_n hx hb (dk DX11_bubble 0 rfl) rfl (lv_at hl 1 rfl) ?_
  refine lv_iconst (v := (-1)) hx hb (dk DX11_bubble 1 rfl) (by decide) ?_
  refine lv_icmp_ne (tgt := 16) hx hb (dk DX11_bubble 2 rfl) (by decide) (fun hc => ?_) (fun hc => ?_)
  · have h := h.1 hc
    refine lv_iload_n hx hb (dk DX11_bubble 8 rfl) rfl (lv_at hl 1 rfl) ?_
    refine lv_iconst (v := 0) hx hb (dk DX11_bubble 9 rfl) (by decide) ?_
    refine lv_aload_n hx hb (dk DX11_bubble 10 rfl) rfl (lv_at hl 0 rfl) ?_
    refine gX_0 X hP 0 (by decide) rfl lk12 (dk DX11_bubble 11 rfl) ?_
    refine gX_1 X hP 2 (by decide) rfl lk141 (dk DX11_bubble 12 rfl) ?_
    refine gX_11 X hP 4 (by decide) rfl lk204 (dk DX11_bubble 13 rfl) ?_
    refine lv_iconst (v := 1) hx hb (dk DX11_bubble 14 rfl) (by decide) ?_
    refine lv_isub hx hb (dk DX11_bubble 15 rfl) ?_
    refine cSi (As := [.int a0, .int 0, .int ((S.1 356) - 1)]) (rest := []) ⟨X.1, X.2.1, X.2.2.1, X.2.2.2.1, X.2.2.2.2.1⟩ (m_X11_within (l := l) a0 0 ((S.1 356) - 1) h) (va_cwS 3 X.2.2.2.2.1 (gxS 593 327 16 324 rfl rfl rfl rfl) rfl rfl rfl q_X11_within ⟨Nat.le_of_ble_eq_true rfl, Nat.le_of_ble_eq_true rfl⟩) rfl hl.1 rfl (Nat.le_of_ble_eq_true rfl) (dk DX11_bubble 16 rfl) (fun r1 h => ?_)
    refine lv_if_eq (tgt := 45) hx hb (dk DX11_bubble 17 rfl) (by decide) (fun hc => ?_) (fun hc => ?_)
    · have h := h.1 hc
      refine lv_iconst (v := (-1)) hx hb (dk DX11_bubble 23 rfl) (by decide) ?_
      exact W.iret (v := (-1)) hx hb hr (fun t ht hW => ⟨⟨_, _, rfl, h, by rw [ht]; exact hP, va_K.moved hW.alike X.2.2.2.2.2.2.1, hD⟩, hS.F ht⟩) hS.2.2 (dk DX11_bubble 24 rfl)
    · have h := h.2 hc
      refine lv_iload_n hx hb (dk DX11_bubble 18 rfl) rfl (lv_at hl 2 rfl) ?_
      refine lv_iconst (v := 0) hx hb (dk DX11_bubble 19 rfl) (by decide) ?_
      refine lv_iconst (v := 3) hx hb (dk DX11_bubble 20 rfl) (by decide) ?_
      refine cSi (As := [.int a1, .int 0, .int 3]) (rest := []) ⟨X.1, X.2.1, X.2.2.1, X.2.2.2.1, X.2.2.2.2.1⟩ (m_X11_within (l := l) a1 0 3 h) (va_cwS 3 X.2.2.2.2.1 (gxS 593 327 16 324 rfl rfl rfl rfl) rfl rfl rfl q_X11_within ⟨Nat.le_of_ble_eq_true rfl, Nat.le_of_ble_eq_true rfl⟩) rfl hl.1 rfl (Nat.le_of_ble_eq_true rfl) (dk DX11_bubble 21 rfl) (fun r2 h => ?_)
      refine lv_if_ne (tgt := 47) hx hb (dk DX11_bubble 22 rfl) (by decide) (fun hc => ?_) (fun hc => ?_)
      · have h := h.1 hc
        refine lv_aload_n hx hb (dk DX11_bubble 25 rfl) rfl (lv_at hl 0 rfl) ?_
        refine gX_0 X hP 0 (by decide) rfl lk12 (dk DX11_bubble 26 rfl) ?_
        refine gX_1 X hP 2 (by decide) rfl lk141 (dk DX11_bubble 27 rfl) ?_
        refine gX_11 X hP 5 (by decide) rfl lk207 (dk DX11_bubble 28 rfl) ?_
        refine lv_iconst (v := 4) hx hb (dk DX11_bubble 29 rfl) (by decide) ?_
        refine lv_iload_n hx hb (dk DX11_bubble 30 rfl) rfl (lv_at hl 1 rfl) ?_
        refine lv_imul hx hb (dk DX11_bubble 31 rfl) ?_
        refine lv_iload_n hx hb (dk DX11_bubble 32 rfl) rfl (lv_at hl 2 rfl) ?_
        refine lv_iadd hx hb (dk DX11_bubble 33 rfl) ?_
        obtain ⟨hin, h⟩ := h
        refine ldX_14 X hP hin (dk DX11_bubble 34 rfl) ?_
        exact W.iret (v := (S.2.1 14) ((4 * a0) + a1).toNatClampNeg) hx hb hr (fun t ht hW => ⟨⟨_, _, rfl, h, by rw [ht]; exact hP, va_K.moved hW.alike X.2.2.2.2.2.2.1, hD⟩, hS.F ht⟩) hS.2.2 (dk DX11_bubble 35 rfl)
      · have h := h.2 hc
        refine lv_iconst (v := (-1)) hx hb (dk DX11_bubble 23 rfl) (by decide) ?_
        exact W.iret (v := (-1)) hx hb hr (fun t ht hW => ⟨⟨_, _, rfl, h, by rw [ht]; exact hP, va_K.moved hW.alike X.2.2.2.2.2.2.1, hD⟩, hS.F ht⟩) hS.2.2 (dk DX11_bubble 24 rfl)
  · have h := h.2 hc
    refine lv_aload_n hx hb (dk DX11_bubble 3 rfl) rfl (lv_at hl 0 rfl) ?_
    refine gX_0 X hP 0 (by decide) rfl lk12 (dk DX11_bubble 4 rfl) ?_
    refine gX_1 X hP 2 (by decide) rfl lk141 (dk DX11_bubble 5 rfl) ?_
    refine gX_11 X hP 4 (by decide) rfl lk204 (dk DX11_bubble 6 rfl) ?_
    exact W.iret (v := (S.1 356)) hx hb hr (fun t ht hW => ⟨⟨_, _, rfl, h, by rw [ht]; exact hP, va_K.moved hW.alike X.2.2.2.2.2.2.1, hD⟩, hS.F ht⟩) hS.2.2 (dk DX11_bubble 7 rfl)

def ww_X11_seen_0 : List Cond := .code yX11_seen cX11_seen 2 (some .int) :: (WdX ++ WsX)
theorem q_X11_seen_0 : yX11_seen.cls = RX11 ∧ yX11_seen.cls ≠ "java/lang/invoke/MethodHandle" ∧ yX11_seen.cls ≠ "java/lang/invoke/VarHandle" ∧ (parseMethodDescriptor yX11_seen.desc).map (fun d => d.parameters.length) = some 1 := by decide +kernel
def VC_X11_seen_0 (Post : Int32 → XS → Prop) (a0 : Int32) (S : XS) : Prop := VC_X7_see_17 (fun r2 S1 => Post r2 S1) a0 S
set_option maxHeartbeats 4000000 in
set_option maxRecDepth 100000 in
theorem m_X11_seen_0 {l : Launch} {dC : Nat → ClassId} {dI : Nat → Nat → Nat} {q : Nat → Nat} {cI cT : ClassId} {en : Nat → Nat} {sz : Nat} {Post : Int32 → XS → Prop} (a0 : Int32) (S : XS) (h : VC_X11_seen_0 Post a0 S) : Met l yX11_seen ww_X11_seen_0 ({ frames := 2, cells := 0, slots := 0, locals := 43 } : Room) (va_Pc [.ref (q 0), .int a0] (preX dC dI q cI cT en S sz)) (va_Qi Post (atX dC dI q cI cT (va_A (wX q cI cT S) sz)) (va_A (wX q cI cT S) sz)) 0 0 (va_A (wX q cI cT S) sz) := by
  refine oX (cc := cX11_seen) (maxL := 2) (ret := (some .int)) (Qc := fun A => va_Qi Post (atX dC dI q cI cT A) A) (own := RX11) (by decide) rfl (fun w h => List.mem_cons_of_mem _ (List.mem_append_right _ h)) rfl (Nat.le_of_ble_eq_true rfl) (fun p e s m below meth c A ls X hr hlocks hP hD hS hl => ?_)
  have hx := X.1
  have hb := X.2.1
  have hl : lv_has ls 2 [(0, .ref (q 0)), (1, .int a0)] := hl
  have lk12 := X.2.2.2.2.1 (.fieldLink RX11 12 "BreathOnLoan" "now" "LBreathOnLoan$State;") (inX 568 rfl)
  have lk247 := X.2.2.2.2.1 (.fieldLink RX11 247 "BreathOnLoan$State" "talk" "LBreathOnLoan$Talk;") (inX 736 rfl)
  dsimp only [VC_X11_seen_0] at h
  refine lv_aload_n hx hb (dk DX11_seen 0 rfl) rfl (lv_at hl 0 rfl) ?_
  refine gX_0 X hP 0 (by decide) rfl lk12 (dk DX11_seen 1 rfl) ?_
  refine gX_1 X hP 4 (by decide) rfl lk247 (dk DX11_seen 2 rfl) ?_
  refine lv_iload_n hx hb (dk DX11_seen 3 rfl) rfl (lv_at hl 1 rfl) ?_
  refine cXi (As := [.int a0]) (rest := []) X (m_X7_see_17 (l := l) (dC := dC) (dI := dI) (q := q) (cI := cI) (cT := cT) (en := en) (sz := _) a0 S h) (cwV 1 X.2.2.2.2.1 (gxV 737 738 739 501 552 rfl rfl rfl rfl rfl) rfl rfl rfl q_X7_see_17 ⟨Nat.le_of_ble_eq_true rfl, Nat.le_of_ble_eq_true rfl⟩) (rX_17 X hP) hP hD hS rfl hl.1 rfl (Nat.le_of_ble_eq_true rfl) (dk DX11_seen 4 rfl) (fun r2 S1 H locs h hP hD hS => ?_)
  exact W.iret (v := r2) hx hb hr (fun t ht hW => ⟨⟨_, _, rfl, h, by rw [ht]; exact hP, va_K.moved hW.alike X.2.2.2.2.2.2.1, hD⟩, hS.F ht⟩) hS.2.2 (dk DX11_seen 5 rfl)

def ww_X11_canHaveBlown_0 : List Cond := .code yX11_canHaveBlown cX11_canHaveBlown 7 (some .boolean) :: (WdX ++ WsX)
theorem q_X11_canHaveBlown_0 : yX11_canHaveBlown.cls = RX11 ∧ yX11_canHaveBlown.cls ≠ "java/lang/invoke/MethodHandle" ∧ yX11_canHaveBlown.cls ≠ "java/lang/invoke/VarHandle" ∧ (parseMethodDescriptor yX11_canHaveBlown.desc).map (fun d => d.parameters.length) = some 1 := by decide +kernel
abbrev Hd_X11_canHaveBlown_0 : Type := (Int32 × Int32 × Int32 × Int32 × Int32 × Int32)
def B_X11_canHaveBlown_0 (Post : Int32 → XS → Prop) (K : Hd_X11_canHaveBlown_0 → XS → Prop) : Hd_X11_canHaveBlown_0 → XS → Prop
  | (x1, x2, x3, x4, x5, x6), S => (((S.1 64) ≤ x6 → ((x4 < x3 → Post 0 S) ∧ (¬ x4 < x3 → ((x2 = 1 → Post 1 S) ∧ (¬ x2 = 1 → ((x3 ≤ (x4 - x5) → Post 0 S) ∧ (¬ x3 ≤ (x4 - x5) → Post 1 S))))))) ∧ (¬ (S.1 64) ≤ x6 → ((((x1 >>> (x6 &&& 31)) &&& 1) = 0 → ∀ v4 : Int32, v4 = x6 + 1 → K (x1, x2, x3, x4, x5, v4) S) ∧ (¬ ((x1 >>> (x6 &&& 31)) &&& 1) = 0 → vp_in x6 6 ∧ ∀ v5 : Int32, v5 = x4 + ((S.2.1 3) x6.toNatClampNeg) → vp_in x6 6 ∧ ∀ v6 : Int32, v6 = (if ((S.2.1 3) x6.toNatClampNeg) < x5 then ((S.2.1 3) x6.toNatClampNeg) else x5) → ∀ v7 : Int32, v7 = x6 + 1 → K (x1, x2, x3, v5, v6, v7) S))))
def VC_X11_canHaveBlown_0 (Post : Int32 → XS → Prop) (a0 : Int32) (S : XS) : Prop := ∀ K : Hd_X11_canHaveBlown_0 → XS → Prop, (∀ h S, B_X11_canHaveBlown_0 Post K h S → K h S) → VC_J6_bitCount_0f7a4 (fun r1 => ((3 < r1 → Post 0 S) ∧ (¬ 3 < r1 → ((¬ (S.1 544) = 0 → VC_X7_mostSeen_17 (fun r3 S2 => K (a0, r1, r3, 0, 9, 0) S2) S) ∧ ((S.1 544) = 0 → Post 0 S))))) a0
set_option maxHeartbeats 4000000 in
set_option maxRecDepth 100000 in
theorem h_X11_canHaveBlown_0_0 {p : Program} {l : Launch} {e : Env} {s : State} {m : MethodId} {below : List Frame} {meth : Method} {c : Code} {dC : Nat → ClassId} {dI : Nat → Nat → Nat} {q : Nat → Nat} {cI cT : ClassId} {en : Nat → Nat} {A : Nat → Prop} {args : Array Value} {Post : Int32 → XS → Prop} {K : Hd_X11_canHaveBlown_0 → XS → Prop} (X : XX p s m args c cX11_canHaveBlown 7 ww_X11_canHaveBlown_0 RX11 dC dI cI cT en A) (hr : meth.sig.returnType = (some .boolean)) (hlocks : meth.locks = false) (hK0 : ∀ (x1 : Int32) (x2 : Int32) (x3 : Int32) (x4 : Int32) (x5 : Int32) (x6 : Int32) (S : XS), K (x1, x2, x3, x4, x5, x6) S → ∀ (H : Heap) (locs : List Loc), va_P (dC, dI) vwCl (wX q cI cT S) H → va_D A (wX q cI cT S) → va_S A s.heap H locs → ∀ ls : Array Slot, lv_has ls 7 [(0, .ref (q 0)), (1, .int x1), (2, .int x2), (3, .int x3), (4, .int x4), (5, .int x5), (6, .int x6)] → W p l e (headSpec ww_X11_canHaveBlown_0 ({ frames := 2, cells := 0, slots := 0, locals := 62 } : Room)).room s m args below meth c H locs 0 0 (MQ below (va_Qi Post (atX dC dI q cI cT A) A) args s 0 0 A) (F0 m 46 ls [])) (x1 : Int32) (x2 : Int32) (x3 : Int32) (x4 : Int32) (x5 : Int32) (x6 : Int32) (S : XS) (h : B_X11_canHaveBlown_0 Post K (x1, x2, x3, x4, x5, x6) S) : ∀ (H : Heap) (locs : List Loc), va_P (dC, dI) vwCl (wX q cI cT S) H → va_D A (wX q cI cT S) → va_S A s.heap H locs → ∀ ls : Array Slot, lv_has ls 7 [(0, .ref (q 0)), (1, .int x1), (2, .int x2), (3, .int x3), (4, .int x4), (5, .int x5), (6, .int x6)] → W p l e (headSpec ww_X11_canHaveBlown_0 ({ frames := 2, cells := 0, slots := 0, locals := 62 } : Room)).room s m args below meth c H locs 0 0 (MQ below (va_Qi Post (atX dC dI q cI cT A) A) args s 0 0 A) (F0 m 46 ls []) := by
  have hx := X.1
  have hb := X.2.1
  intro H locs hP hD hS ls hl
  have lk12 := X.2.2.2.2.1 (.fieldLink RX11 12 "BreathOnLoan" "now" "LBreathOnLoan$State;") (inX 568 rfl)
  have lk247 := X.2.2.2.2.1 (.fieldLink RX11 247 "BreathOnLoan$State" "talk" "LBreathOnLoan$Talk;") (inX 736 rfl)
  have lk277 := X.2.2.2.2.1 (.fieldLink RX11 277 "BreathOnLoan$Talk" "seenCount" "I") (inX 740 rfl)
  have lk57 := X.2.2.2.2.1 (.fieldLink RX11 57 "BreathOnLoan$State" "crew" "LBreathOnLoan$Crew;") (inX 592 rfl)
  have lk256 := X.2.2.2.2.1 (.fieldLink RX11 256 "BreathOnLoan$Crew" "count" "I") (inX 672 rfl)
  have lk182 := X.2.2.2.2.1 (.fieldLink RX11 182 "BreathOnLoan$Crew" "lungs" "[I") (inX 651 rfl)
  dsimp only [B_X11_canHaveBlown_0] at h
  refine lv_iload hx hb (dk DX11_canHaveBlown 24 rfl) (lv_at hl 6 rfl) ?_
  refine lv_aload_n hx hb (dk DX11_canHaveBlown 25 rfl) rfl (lv_at hl 0 rfl) ?_
  refine gX_0 X hP 0 (by decide) rfl lk12 (dk DX11_canHaveBlown 26 rfl) ?_
  refine gX_1 X hP 0 (by decide) rfl lk57 (dk DX11_canHaveBlown 27 rfl) ?_
  refine gX_2 X hP 0 (by decide) rfl lk256 (dk DX11_canHaveBlown 28 rfl) ?_
  refine lv_icmp_ge (tgt := 114) hx hb (dk DX11_canHaveBlown 29 rfl) (by decide) (fun hc => ?_) (fun hc => ?_)
  · have h := h.1 hc
    refine lv_iload hx hb (dk DX11_canHaveBlown 56 rfl) (lv_at hl 4 rfl) ?_
    refine lv_iload_n hx hb (dk DX11_canHaveBlown 57 rfl) rfl (lv_at hl 3 rfl) ?_
    refine lv_icmp_lt (tgt := 138) hx hb (dk DX11_canHaveBlown 58 rfl) (by decide) (fun hc => ?_) (fun hc => ?_)
    · have h := h.1 hc
      refine lv_iconst (v := 0) hx hb (dk DX11_canHaveBlown 69 rfl) (by decide) ?_
      exact W.zret (v := 0) hx hb hr (by decide) (fun t ht hW => ⟨⟨_, _, rfl, h, by rw [ht]; exact hP, va_K.moved hW.alike X.2.2.2.2.2.2.1, hD⟩, hS.F ht⟩) hS.2.2 (dk DX11_canHaveBlown 70 rfl)
    · have h := h.2 hc
      refine lv_iload_n hx hb (dk DX11_canHaveBlown 59 rfl) rfl (lv_at hl 2 rfl) ?_
      refine lv_iconst (v := 1) hx hb (dk DX11_canHaveBlown 60 rfl) (by decide) ?_
      refine lv_icmp_eq (tgt := 134) hx hb (dk DX11_canHaveBlown 61 rfl) (by decide) (fun hc => ?_) (fun hc => ?_)
      · have h := h.1 hc
        refine lv_iconst (v := 1) hx hb (dk DX11_canHaveBlown 67 rfl) (by decide) ?_
        refine lv_goto (tgt := 139) hx hb (dk DX11_canHaveBlown 68 rfl) (by decide) ?_
        exact W.zret (v := 1) hx hb hr (by decide) (fun t ht hW => ⟨⟨_, _, rfl, h, by rw [ht]; exact hP, va_K.moved hW.alike X.2.2.2.2.2.2.1, hD⟩, hS.F ht⟩) hS.2.2 (dk DX11_canHaveBlown 70 rfl)
      · have h := h.2 hc
        refine lv_iload hx hb (dk DX11_canHaveBlown 62 rfl) (lv_at hl 4 rfl) ?_
        refine lv_iload hx hb (dk DX11_canHaveBlown 63 rfl) (lv_at hl 5 rfl) ?_
        refine lv_isub hx hb (dk DX11_canHaveBlown 64 rfl) ?_
        refine lv_iload_n hx hb (dk DX11_canHaveBlown 65 rfl) rfl (lv_at hl 3 rfl) ?_
        refine lv_icmp_ge (tgt := 138) hx hb (dk DX11_canHaveBlown 66 rfl) (by decide) (fun hc => ?_) (fun hc => ?_)
        · have h := h.1 hc
          refine lv_iconst (v := 0) hx hb (dk DX11_canHaveBlown 69 rfl) (by decide) ?_
          exact W.zret (v := 0) hx hb hr (by decide) (fun t ht hW => ⟨⟨_, _, rfl, h, by rw [ht]; exact hP, va_K.moved hW.alike X.2.2.2.2.2.2.1, hD⟩, hS.F ht⟩) hS.2.2 (dk DX11_canHaveBlown 70 rfl)
        · have h := h.2 hc
          refine lv_iconst (v := 1) hx hb (dk DX11_canHaveBlown 67 rfl) (by decide) ?_
          refine lv_goto (tgt := 139) hx hb (dk DX11_canHaveBlown 68 rfl) (by decide) ?_
          exact W.zret (v := 1) hx hb hr (by decide) (fun t ht hW => ⟨⟨_, _, rfl, h, by rw [ht]; exact hP, va_K.moved hW.alike X.2.2.2.2.2.2.1, hD⟩, hS.F ht⟩) hS.2.2 (dk DX11_canHaveBlown 70 rfl)
  · have h := h.2 hc
    refine lv_iload_n hx hb (dk DX11_canHaveBlown 30 rfl) rfl (lv_at hl 1 rfl) ?_
    refine lv_iload hx hb (dk DX11_canHaveBlown 31 rfl) (lv_at hl 6 rfl) ?_
    refine lv_ishr hx hb (dk DX11_canHaveBlown 32 rfl) ?_
    refine lv_iconst (v := 1) hx hb (dk DX11_canHaveBlown 33 rfl) (by decide) ?_
    refine lv_iand hx hb (dk DX11_canHaveBlown 34 rfl) ?_
    refine lv_if_eq (tgt := 108) hx hb (dk DX11_canHaveBlown 35 rfl) (by decide) (fun hc => ?_) (fun hc => ?_)
    · have h := h.1 hc
      obtain ⟨v4, ev4⟩ : ∃ y : Int32, y = x6 + 1 := ⟨_, rfl⟩
      have h := h v4 ev4
      refine lv_iinc (v := v4) (lv' := [(6, .int v4), (0, .ref (q 0)), (1, .int x1), (2, .int x2), (3, .int x3), (4, .int x4), (5, .int x5)]) hx hb (dk DX11_canHaveBlown 54 rfl) hl (k := 6) rfl (by rw [ev4]; rfl) (by decide) rfl (fun ls hl => ?_)
      refine lv_goto (tgt := 46) hx hb (dk DX11_canHaveBlown 55 rfl) (by decide) ?_
      exact hK0 x1 x2 x3 x4 x5 v4 S h _ _ hP hD hS ls (lv_sub hl [1, 2, 3, 4, 5, 6, 0] rfl)
    · have h := h.2 hc
      refine lv_iload hx hb (dk DX11_canHaveBlown 36 rfl) (lv_at hl 4 rfl) ?_
      refine lv_aload_n hx hb (dk DX11_canHaveBlown 37 rfl) rfl (lv_at hl 0 rfl) ?_
      refine gX_0 X hP 0 (by decide) rfl lk12 (dk DX11_canHaveBlown 38 rfl) ?_
      refine gX_1 X hP 0 (by decide) rfl lk57 (dk DX11_canHaveBlown 39 rfl) ?_
      refine gX_2 X hP 1 (by decide) rfl lk182 (dk DX11_canHaveBlown 40 rfl) ?_
      refine lv_iload hx hb (dk DX11_canHaveBlown 41 rfl) (lv_at hl 6 rfl) ?_
      obtain ⟨hin, h⟩ := h
      refine ldX_3 X hP hin (dk DX11_canHaveBlown 42 rfl) ?_
      refine lv_iadd hx hb (dk DX11_canHaveBlown 43 rfl) ?_
      refine lv_topi (fun v5 ev5 => ?_)
      have h := h v5 ev5
      refine lv_istore (lv' := [(4, .int v5), (0, .ref (q 0)), (1, .int x1), (2, .int x2), (3, .int x3), (5, .int x5), (6, .int x6)]) hx hb (dk DX11_canHaveBlown 44 rfl) hl (by decide) rfl (fun ls hl => ?_)
      refine lv_iload hx hb (dk DX11_canHaveBlown 45 rfl) (lv_at hl 5 rfl) ?_
      refine lv_aload_n hx hb (dk DX11_canHaveBlown 46 rfl) rfl (lv_at hl 1 rfl) ?_
      refine gX_0 X hP 0 (by decide) rfl lk12 (dk DX11_canHaveBlown 47 rfl) ?_
      refine gX_1 X hP 0 (by decide) rfl lk57 (dk DX11_canHaveBlown 48 rfl) ?_
      refine gX_2 X hP 1 (by decide) rfl lk182 (dk DX11_canHaveBlown 49 rfl) ?_
      refine lv_iload hx hb (dk DX11_canHaveBlown 50 rfl) (lv_at hl 6 rfl) ?_
      obtain ⟨hin, h⟩ := h
      refine ldX_3 X hP hin (dk DX11_canHaveBlown 51 rfl) ?_
      refine va_mmin hx hb (X.2.2.1.trans hl.1.symm) X.2.2.2.1 (X.2.2.2.2.1 (.methodLink RX11 309 Lib.Math.min.name) (inX 19 rfl)) (X.2.2.2.2.1 (.static Lib.Math.min.name) (inX 20 rfl)) (X.2.2.2.2.1 (.initialized "java/lang/Math") (inX 21 rfl)) (X.2.2.2.2.1 (.code Lib.Math.min.name Lib.Math.min.code 2 (some .int)) (inX 22 rfl)) (Nat.le_of_ble_eq_true rfl) (Nat.le_of_ble_eq_true rfl) (Nat.zero_le _) (Nat.zero_le _) (dk DX11_canHaveBlown 52 rfl) ?_
      refine lv_topi (fun v6 ev6 => ?_)
      have h := h v6 ev6
      refine lv_istore (lv' := [(5, .int v6), (4, .int v5), (0, .ref (q 0)), (1, .int x1), (2, .int x2), (3, .int x3), (6, .int x6)]) hx hb (dk DX11_canHaveBlown 53 rfl) hl (by decide) rfl (fun ls hl => ?_)
      obtain ⟨v7, ev7⟩ : ∃ y : Int32, y = x6 + 1 := ⟨_, rfl⟩
      have h := h v7 ev7
      refine lv_iinc (v := v7) (lv' := [(6, .int v7), (5, .int v6), (4, .int v5), (0, .ref (q 0)), (1, .int x1), (2, .int x2), (3, .int x3)]) hx hb (dk DX11_canHaveBlown 54 rfl) hl (k := 6) rfl (by rw [ev7]; rfl) (by decide) rfl (fun ls hl => ?_)
      refine lv_goto (tgt := 46) hx hb (dk DX11_canHaveBlown 55 rfl) (by decide) ?_
      exact hK0 x1 x2 x3 v5 v6 v7 S h _ _ hP hD hS ls (lv_sub hl [3, 4, 5, 6, 2, 1, 0] rfl)
set_option maxHeartbeats 4000000 in
set_option maxRecDepth 100000 in
theorem m_X11_canHaveBlown_0 {l : Launch} {dC : Nat → ClassId} {dI : Nat → Nat → Nat} {q : Nat → Nat} {cI cT : ClassId} {en : Nat → Nat} {sz : Nat} {Post : Int32 → XS → Prop} (a0 : Int32) (S : XS) (h : VC_X11_canHaveBlown_0 Post a0 S) : Met l yX11_canHaveBlown ww_X11_canHaveBlown_0 ({ frames := 2, cells := 0, slots := 0, locals := 62 } : Room) (va_Pc [.ref (q 0), .int a0] (preX dC dI q cI cT en S sz)) (va_Qi Post (atX dC dI q cI cT (va_A (wX q cI cT S) sz)) (va_A (wX q cI cT S) sz)) 0 0 (va_A (wX q cI cT S) sz) := by
  refine oX (cc := cX11_canHaveBlown) (maxL := 7) (ret := (some .boolean)) (Qc := fun A => va_Qi Post (atX dC dI q cI cT A) A) (own := RX11) (by decide) rfl (fun w h => List.mem_cons_of_mem _ (List.mem_append_right _ h)) rfl (Nat.le_of_ble_eq_true rfl) (fun p e s m below meth c A ls X hr hlocks hP hD hS hl => ?_)
  have hx := X.1
  have hb := X.2.1
  have hl : lv_has ls 7 [(0, .ref (q 0)), (1, .int a0)] := hl
  have lk12 := X.2.2.2.2.1 (.fieldLink RX11 12 "BreathOnLoan" "now" "LBreathOnLoan$State;") (inX 568 rfl)
  have lk247 := X.2.2.2.2.1 (.fieldLink RX11 247 "BreathOnLoan$State" "talk" "LBreathOnLoan$Talk;") (inX 736 rfl)
  have lk277 := X.2.2.2.2.1 (.fieldLink RX11 277 "BreathOnLoan$Talk" "seenCount" "I") (inX 740 rfl)
  have lk57 := X.2.2.2.2.1 (.fieldLink RX11 57 "BreathOnLoan$State" "crew" "LBreathOnLoan$Crew;") (inX 592 rfl)
  have lk256 := X.2.2.2.2.1 (.fieldLink RX11 256 "BreathOnLoan$Crew" "count" "I") (inX 672 rfl)
  have lk182 := X.2.2.2.2.1 (.fieldLink RX11 182 "BreathOnLoan$Crew" "lungs" "[I") (inX 651 rfl)
  generalize hargs : ([.ref (q 0), .int a0] : List Value).toArray = args at X ⊢
  have h := h (fun hd S => match hd with | (x1, x2, x3, x4, x5, x6) => ∀ (H : Heap) (locs : List Loc), va_P (dC, dI) vwCl (wX q cI cT S) H → va_D A (wX q cI cT S) → va_S A s.heap H locs → ∀ ls : Array Slot, lv_has ls 7 [(0, .ref (q 0)), (1, .int x1), (2, .int x2), (3, .int x3), (4, .int x4), (5, .int x5), (6, .int x6)] → W p l e (headSpec ww_X11_canHaveBlown_0 ({ frames := 2, cells := 0, slots := 0, locals := 62 } : Room)).room s m args below meth c H locs 0 0 (MQ below (va_Qi Post (atX dC dI q cI cT A) A) args s 0 0 A) (F0 m 46 ls [])) ?_
  · skip
    refine lv_iload_n hx hb (dk DX11_canHaveBlown 0 rfl) rfl (lv_at hl 1 rfl) ?_
    refine cSi (As := [.int a0]) (rest := []) ⟨X.1, X.2.1, X.2.2.1, X.2.2.2.1, X.2.2.2.2.1⟩ (m_J6_bitCount_0f7a4 (l := l) a0 h) (va_cwS 1 X.2.2.2.2.1 (gxS 724 50 51 44 rfl rfl rfl rfl) rfl rfl rfl q_J6_bitCount_0f7a4 ⟨Nat.le_of_ble_eq_true rfl, Nat.le_of_ble_eq_true rfl⟩) rfl hl.1 rfl (Nat.le_of_ble_eq_true rfl) (dk DX11_canHaveBlown 1 rfl) (fun r1 h => ?_)
    refine lv_istore_n (lv' := [(2, .int r1), (0, .ref (q 0)), (1, .int a0)]) hx hb (dk DX11_canHaveBlown 2 rfl) rfl hl (by decide) rfl (fun ls hl => ?_)
    refine lv_iload_n hx hb (dk DX11_canHaveBlown 3 rfl) rfl (lv_at hl 0 rfl) ?_
    refine lv_iconst (v := 3) hx hb (dk DX11_canHaveBlown 4 rfl) (by decide) ?_
    refine lv_icmp_gt (tgt := 23) hx hb (dk DX11_canHaveBlown 5 rfl) (by decide) (fun hc => ?_) (fun hc => ?_)
    · have h := h.1 hc
      refine lv_iconst (v := 0) hx hb (dk DX11_canHaveBlown 11 rfl) (by decide) ?_
      exact W.zret (v := 0) hx hb hr (by decide) (fun t ht hW => ⟨⟨_, _, rfl, h, by rw [ht]; exact hP, va_K.moved hW.alike X.2.2.2.2.2.2.1, hD⟩, hS.F ht⟩) hS.2.2 (dk DX11_canHaveBlown 12 rfl)
    · have h := h.2 hc
      refine lv_aload_n hx hb (dk DX11_canHaveBlown 6 rfl) rfl (lv_at hl 1 rfl) ?_
      refine gX_0 X hP 0 (by decide) rfl lk12 (dk DX11_canHaveBlown 7 rfl) ?_
      refine gX_1 X hP 4 (by decide) rfl lk247 (dk DX11_canHaveBlown 8 rfl) ?_
      refine gX_17 X hP 0 (by decide) rfl lk277 (dk DX11_canHaveBlown 9 rfl) ?_
      refine lv_if_ne (tgt := 25) hx hb (dk DX11_canHaveBlown 10 rfl) (by decide) (fun hc => ?_) (fun hc => ?_)
      · have h := h.1 hc
        refine lv_aload_n hx hb (dk DX11_canHaveBlown 13 rfl) rfl (lv_at hl 1 rfl) ?_
        refine gX_0 X hP 0 (by decide) rfl lk12 (dk DX11_canHaveBlown 14 rfl) ?_
        refine gX_1 X hP 4 (by decide) rfl lk247 (dk DX11_canHaveBlown 15 rfl) ?_
        refine cXi (As := []) (rest := []) X (m_X7_mostSeen_17 (l := l) (dC := dC) (dI := dI) (q := q) (cI := cI) (cT := cT) (en := en) (sz := _) S h) (cwV 0 X.2.2.2.2.1 (gxV 741 742 743 501 553 rfl rfl rfl rfl rfl) rfl rfl rfl q_X7_mostSeen_17 ⟨Nat.le_of_ble_eq_true rfl, Nat.le_of_ble_eq_true rfl⟩) (rX_17 X hP) hP hD hS rfl hl.1 rfl (Nat.le_of_ble_eq_true rfl) (dk DX11_canHaveBlown 16 rfl) (fun r3 S2 H locs h hP hD hS => ?_)
        refine lv_istore_n (lv' := [(3, .int r3), (2, .int r1), (0, .ref (q 0)), (1, .int a0)]) hx hb (dk DX11_canHaveBlown 17 rfl) rfl hl (by decide) rfl (fun ls hl => ?_)
        refine lv_iconst (v := 0) hx hb (dk DX11_canHaveBlown 18 rfl) (by decide) ?_
        refine lv_istore (lv' := [(4, .int 0), (3, .int r3), (2, .int r1), (0, .ref (q 0)), (1, .int a0)]) hx hb (dk DX11_canHaveBlown 19 rfl) hl (by decide) rfl (fun ls hl => ?_)
        refine lv_bipush (v := 9) hx hb (dk DX11_canHaveBlown 20 rfl) (by decide) ?_
        refine lv_istore (lv' := [(5, .int 9), (4, .int 0), (3, .int r3), (2, .int r1), (0, .ref (q 0)), (1, .int a0)]) hx hb (dk DX11_canHaveBlown 21 rfl) hl (by decide) rfl (fun ls hl => ?_)
        refine lv_iconst (v := 0) hx hb (dk DX11_canHaveBlown 22 rfl) (by decide) ?_
        refine lv_istore (lv' := [(6, .int 0), (5, .int 9), (4, .int 0), (3, .int r3), (2, .int r1), (0, .ref (q 0)), (1, .int a0)]) hx hb (dk DX11_canHaveBlown 23 rfl) hl (by decide) rfl (fun ls hl => ?_)
        exact h _ _ hP hD hS ls (lv_sub hl [5, 6, 4, 3, 2, 1, 0] rfl)
      · have h := h.2 hc
        refine lv_iconst (v := 0) hx hb (dk DX11_canHaveBlown 11 rfl) (by decide) ?_
        exact W.zret (v := 0) hx hb hr (by decide) (fun t ht hW => ⟨⟨_, _, rfl, h, by rw [ht]; exact hP, va_K.moved hW.alike X.2.2.2.2.2.2.1, hD⟩, hS.F ht⟩) hS.2.2 (dk DX11_canHaveBlown 12 rfl)
  · rintro ⟨x1, x2, x3, x4, x5, x6⟩ S hB
    exact h_X11_canHaveBlown_0_0 X hr hlocks (hK0 := fun _ _ _ _ _ _ _ h => h) x1 x2 x3 x4 x5 x6 S hB

