-- X5_takeFrom_21_1 X11_image_0 X11_copyRow_23_3 X11_copyRow_24_4 X11_copyRow_25_5 X11_copyRow_26_6 X1_takeFrom_2_22 X11_copyRow_28_8 X11_copyRow_29_9 X11_copyRow_30_10 X10_takeFrom_7_27 X11_copyRow_32_12 X11_copyRow_33_13 X11_copyRow_34_14
def ww_X5_takeFrom_21_1 : List Cond := .code yX5_takeFrom cX5_takeFrom 3 none :: (WdX ++ WsX)
theorem q_X5_takeFrom_21_1 : yX5_takeFrom.cls = RX5 ∧ yX5_takeFrom.cls ≠ "java/lang/invoke/MethodHandle" ∧ yX5_takeFrom.cls ≠ "java/lang/invoke/VarHandle" ∧ (parseMethodDescriptor yX5_takeFrom.desc).map (fun d => d.parameters.length) = some 1 := by decide +kernel
abbrev Hd_X5_takeFrom_21_1 : Type := (Int32)
def B_X5_takeFrom_21_1 (Post : XS → Prop) (K : Hd_X5_takeFrom_21_1 → XS → Prop) : Hd_X5_takeFrom_21_1 → XS → Prop
  | x2, S => ((4 ≤ x2 → ∀ v6 : Int32, v6 = (S.1 38) → ∀ S7 : XS, S7 = xI S 678 v6 → ∀ v8 : Int32, v8 = (S7.1 39) → ∀ S9 : XS, S9 = xI S7 679 v8 → Post S9) ∧ (¬ 4 ≤ x2 → vp_in x2 4 ∧ (∀ a : Nat, (S.2.2.1 20 x2.toNatClampNeg) = some a → ∃ t : TR, tx S a t) ∧ vp_in x2 4 ∧ ∀ S10 : XS, S10 = xG S 40 (va_up (S.2.2.1 40) x2.toNatClampNeg (S.2.2.1 20 x2.toNatClampNeg)) → ∀ v11 : Int32, v11 = x2 + 1 → K v11 S10))
def VC_X5_takeFrom_21_1 (Post : XS → Prop) (S : XS) : Prop := ∀ K : Hd_X5_takeFrom_21_1 → XS → Prop, (∀ h S, B_X5_takeFrom_21_1 Post K h S → K h S) → VC_X1_takeFrom_22_2 (fun S1 => VC_X10_takeFrom_27_7 (fun S2 => VC_X0_takeFrom_31_11 (fun S3 => VC_X6_takeFrom_35_15 (fun S4 => VC_X7_takeFrom_37_17 (fun S5 => K 0 S5) S4) S3) S2) S1) S
set_option maxHeartbeats 4000000 in
set_option maxRecDepth 100000 in
theorem h_X5_takeFrom_21_1_0 {p : Program} {l : Launch} {e : Env} {s : State} {m : MethodId} {below : List Frame} {meth : Method} {c : Code} {dC : Nat → ClassId} {dI : Nat → Nat → Nat} {q : Nat → Nat} {cI cT : ClassId} {en : Nat → Nat} {A : Nat → Prop} {args : Array Value} {Post : XS → Prop} {K : Hd_X5_takeFrom_21_1 → XS → Prop} (X : XX p s m args c cX5_takeFrom 3 ww_X5_takeFrom_21_1 RX5 dC dI cI cT en A) (hr : meth.sig.returnType = none) (hlocks : meth.locks = false) (hK0 : ∀ (x2 : Int32) (S : XS), K x2 S → ∀ (H : Heap) (locs : List Loc), va_P (dC, dI) vwCl (wX q cI cT S) H → va_D A (wX q cI cT S) → va_S A s.heap H locs → ∀ ls : Array Slot, lv_has ls 3 [(0, .ref (q 21)), (1, .ref (q 1)), (2, .int x2)] → W p l e (headSpec ww_X5_takeFrom_21_1 ({ frames := 3, cells := 0, slots := 0, locals := 82 } : Room)).room s m args below meth c H locs 0 0 (MQ below (va_Qv Post (atX dC dI q cI cT A) A) args s 0 0 A) (F0 m 57 ls [])) (x2 : Int32) (S : XS) (h : B_X5_takeFrom_21_1 Post K x2 S) : ∀ (H : Heap) (locs : List Loc), va_P (dC, dI) vwCl (wX q cI cT S) H → va_D A (wX q cI cT S) → va_S A s.heap H locs → ∀ ls : Array Slot, lv_has ls 3 [(0, .ref (q 21)), (1, .ref (q 1)), (2, .int x2)] → W p l e (headSpec ww_X5_takeFrom_21_1 ({ frames := 3, cells := 0, slots := 0, locals := 82 } : Room)).room s m args below meth c H locs 0 0 (MQ below (va_Qv Post (atX dC dI q cI cT A) A) args s 0 0 A) (F0 m 57 ls []) := by
  have hx := X.1
  have hb := X.2.1
  intro H locs hP hD hS ls hl
  have lk12 := X.2.2.2.2.1 (.fieldLink RX5 12 "BreathOnLoan$State" "crew" "LBreathOnLoan$Crew;") (inX 488 rfl)
  have lk21 := X.2.2.2.2.1 (.fieldLink RX5 21 "BreathOnLoan$State" "wares" "LBreathOnLoan$Wares;") (inX 491 rfl)
  have lk28 := X.2.2.2.2.1 (.fieldLink RX5 28 "BreathOnLoan$State" "bench" "LBreathOnLoan$Bench;") (inX 494 rfl)
  have lk35 := X.2.2.2.2.1 (.fieldLink RX5 35 "BreathOnLoan$State" "steps" "LBreathOnLoan$Steps;") (inX 498 rfl)
  have lk42 := X.2.2.2.2.1 (.fieldLink RX5 42 "BreathOnLoan$State" "talk" "LBreathOnLoan$Talk;") (inX 502 rfl)
  have lk56 := X.2.2.2.2.1 (.fieldLink RX5 56 "BreathOnLoan$State" "textCount" "I") (inX 58 rfl)
  have lk52 := X.2.2.2.2.1 (.fieldLink RX5 52 "BreathOnLoan$State" "ruling" "I") (inX 504 rfl)
  have lk48 := X.2.2.2.2.1 (.fieldLink RX5 48 "BreathOnLoan$State" "texts" "[LBreathOnLoan$Text;") (inX 59 rfl)
  dsimp only [B_X5_takeFrom_21_1] at h
  refine lv_iload_n hx hb (dk DX5_takeFrom 27 rfl) rfl (lv_at hl 2 rfl) ?_
  refine lv_iconst (v := 4) hx hb (dk DX5_takeFrom 28 rfl) (by decide) ?_
  refine lv_icmp_ge (tgt := 80) hx hb (dk DX5_takeFrom 29 rfl) (by decide) (fun hc => ?_) (fun hc => ?_)
  · have h := h.1 hc
    refine lv_aload_n hx hb (dk DX5_takeFrom 40 rfl) rfl (lv_at hl 0 rfl) ?_
    refine lv_aload_n hx hb (dk DX5_takeFrom 41 rfl) rfl (lv_at hl 1 rfl) ?_
    refine gX_1 X hP 6 (by decide) rfl lk56 (dk DX5_takeFrom 42 rfl) ?_
    refine lv_topi (fun v6 ev6 => ?_)
    have h := h v6 ev6
    refine pX_21_6 X hP hD hS lk56 (dk DX5_takeFrom 43 rfl) (fun S7 eS7 H locs hP hD hS => ?_)
    have h := h S7 eS7
    refine lv_aload_n hx hb (dk DX5_takeFrom 44 rfl) rfl (lv_at hl 0 rfl) ?_
    refine lv_aload_n hx hb (dk DX5_takeFrom 45 rfl) rfl (lv_at hl 1 rfl) ?_
    refine gX_1 X hP 7 (by decide) rfl lk52 (dk DX5_takeFrom 46 rfl) ?_
    refine lv_topi (fun v8 ev8 => ?_)
    have h := h v8 ev8
    refine pX_21_7 X hP hD hS lk52 (dk DX5_takeFrom 47 rfl) (fun S9 eS9 H locs hP hD hS => ?_)
    have h := h S9 eS9
    exact W.vret hx hb hr (fun t ht hW => ⟨⟨_, rfl, h, by rw [ht]; exact hP, va_K.moved hW.alike X.2.2.2.2.2.2.1, hD⟩, hS.F ht⟩) hS.2.2 (dk DX5_takeFrom 48 rfl)
  · have h := h.2 hc
    refine lv_aload_n hx hb (dk DX5_takeFrom 30 rfl) rfl (lv_at hl 0 rfl) ?_
    refine gX_21 X hP 5 (by decide) rfl lk48 (dk DX5_takeFrom 31 rfl) ?_
    refine lv_iload_n hx hb (dk DX5_takeFrom 32 rfl) rfl (lv_at hl 2 rfl) ?_
    refine lv_aload_n hx hb (dk DX5_takeFrom 33 rfl) rfl (lv_at hl 1 rfl) ?_
    refine gX_1 X hP 5 (by decide) rfl lk48 (dk DX5_takeFrom 34 rfl) ?_
    refine lv_iload_n hx hb (dk DX5_takeFrom 35 rfl) rfl (lv_at hl 2 rfl) ?_
    obtain ⟨hin, h⟩ := h
    refine laX_20 X hP hin (dk DX5_takeFrom 36 rfl) ?_
    obtain ⟨hra, h⟩ := h
    obtain ⟨hin, h⟩ := h
    refine saX_40 X hP hD hS (r := (S.2.2.1 20 x2.toNatClampNeg)) hra hin (dk DX5_takeFrom 37 rfl) (fun S10 eS10 H locs hP hD hS => ?_)
    have h := h S10 eS10
    obtain ⟨v11, ev11⟩ : ∃ y : Int32, y = x2 + 1 := ⟨_, rfl⟩
    have h := h v11 ev11
    refine lv_iinc (v := v11) (lv' := [(2, .int v11), (0, .ref (q 21)), (1, .ref (q 1))]) hx hb (dk DX5_takeFrom 38 rfl) hl (k := 2) rfl (by rw [ev11]; rfl) (by decide) rfl (fun ls hl => ?_)
    refine lv_goto (tgt := 57) hx hb (dk DX5_takeFrom 39 rfl) (by decide) ?_
    exact hK0 v11 S10 h _ _ hP hD hS ls (lv_sub hl [1, 2, 0] rfl)
set_option maxHeartbeats 4000000 in
set_option maxRecDepth 100000 in
theorem m_X5_takeFrom_21_1 {l : Launch} {dC : Nat → ClassId} {dI : Nat → Nat → Nat} {q : Nat → Nat} {cI cT : ClassId} {en : Nat → Nat} {sz : Nat} {Post : XS → Prop} (S : XS) (h : VC_X5_takeFrom_21_1 Post S) : Met l yX5_takeFrom ww_X5_takeFrom_21_1 ({ frames := 3, cells := 0, slots := 0, locals := 82 } : Room) (va_Pc [.ref (q 21), .ref (q 1)] (preX dC dI q cI cT en S sz)) (va_Qv Post (atX dC dI q cI cT (va_A (wX q cI cT S) sz)) (va_A (wX q cI cT S) sz)) 0 0 (va_A (wX q cI cT S) sz) := by
  refine oX (cc := cX5_takeFrom) (maxL := 3) (ret := none) (Qc := fun A => va_Qv Post (atX dC dI q cI cT A) A) (own := RX5) (by decide) rfl (fun w h => List.mem_cons_of_mem _ (List.mem_append_right _ h)) rfl (Nat.le_of_ble_eq_true rfl) (fun p e s m below meth c A ls X hr hlocks hP hD hS hl => ?_)
  have hx := X.1
  have hb := X.2.1
  have hl : lv_has ls 3 [(0, .ref (q 21)), (1, .ref (q 1))] := hl
  have lk12 := X.2.2.2.2.1 (.fieldLink RX5 12 "BreathOnLoan$State" "crew" "LBreathOnLoan$Crew;") (inX 488 rfl)
  have lk21 := X.2.2.2.2.1 (.fieldLink RX5 21 "BreathOnLoan$State" "wares" "LBreathOnLoan$Wares;") (inX 491 rfl)
  have lk28 := X.2.2.2.2.1 (.fieldLink RX5 28 "BreathOnLoan$State" "bench" "LBreathOnLoan$Bench;") (inX 494 rfl)
  have lk35 := X.2.2.2.2.1 (.fieldLink RX5 35 "BreathOnLoan$State" "steps" "LBreathOnLoan$Steps;") (inX 498 rfl)
  have lk42 := X.2.2.2.2.1 (.fieldLink RX5 42 "BreathOnLoan$State" "talk" "LBreathOnLoan$Talk;") (inX 502 rfl)
  have lk56 := X.2.2.2.2.1 (.fieldLink RX5 56 "BreathOnLoan$State" "textCount" "I") (inX 58 rfl)
  have lk52 := X.2.2.2.2.1 (.fieldLink RX5 52 "BreathOnLoan$State" "ruling" "I") (inX 504 rfl)
  have lk48 := X.2.2.2.2.1 (.fieldLink RX5 48 "BreathOnLoan$State" "texts" "[LBreathOnLoan$Text;") (inX 59 rfl)
  generalize hargs : ([.ref (q 21), .ref (q 1)] : List Value).toArray = args at X ⊢
  have h := h (fun hd S => match hd with | x2 => ∀ (H : Heap) (locs : List Loc), va_P (dC, dI) vwCl (wX q cI cT S) H → va_D A (wX q cI cT S) → va_S A s.heap H locs → ∀ ls : Array Slot, lv_has ls 3 [(0, .ref (q 21)), (1, .ref (q 1)), (2, .int x2)] → W p l e (headSpec ww_X5_takeFrom_21_1 ({ frames := 3, cells := 0, slots := 0, locals := 82 } : Room)).room s m args below meth c H locs 0 0 (MQ below (va_Qv Post (atX dC dI q cI cT A) A) args s 0 0 A) (F0 m 57 ls [])) ?_
  · skip
    refine lv_aload_n hx hb (dk DX5_takeFrom 0 rfl) rfl (lv_at hl 0 rfl) ?_
    refine gX_21 X hP 0 (by decide) rfl lk12 (dk DX5_takeFrom 1 rfl) ?_
    refine lv_aload_n hx hb (dk DX5_takeFrom 2 rfl) rfl (lv_at hl 1 rfl) ?_
    refine gX_1 X hP 0 (by decide) rfl lk12 (dk DX5_takeFrom 3 rfl) ?_
    refine cXv (As := [.ref (q 2)]) (rest := []) X (m_X1_takeFrom_22_2 (l := l) (dC := dC) (dI := dI) (q := q) (cI := cI) (cT := cT) (en := en) (sz := _) S h) (cwV 1 X.2.2.2.2.1 (gxV 528 529 530 42 52 rfl rfl rfl rfl rfl) rfl rfl rfl q_X1_takeFrom_22_2 ⟨Nat.le_of_ble_eq_true rfl, Nat.le_of_ble_eq_true rfl⟩) (rX_22 X hP) hP hD hS rfl hl.1 rfl (Nat.le_of_ble_eq_true rfl) (dk DX5_takeFrom 4 rfl) (fun S1 H locs h hP hD hS => ?_)
    refine lv_aload_n hx hb (dk DX5_takeFrom 5 rfl) rfl (lv_at hl 0 rfl) ?_
    refine gX_21 X hP 1 (by decide) rfl lk21 (dk DX5_takeFrom 6 rfl) ?_
    refine lv_aload_n hx hb (dk DX5_takeFrom 7 rfl) rfl (lv_at hl 1 rfl) ?_
    refine gX_1 X hP 1 (by decide) rfl lk21 (dk DX5_takeFrom 8 rfl) ?_
    refine cXv (As := [.ref (q 7)]) (rest := []) X (m_X10_takeFrom_27_7 (l := l) (dC := dC) (dI := dI) (q := q) (cI := cI) (cT := cT) (en := en) (sz := _) S1 h) (cwV 1 X.2.2.2.2.1 (gxV 531 532 533 150 521 rfl rfl rfl rfl rfl) rfl rfl rfl q_X10_takeFrom_27_7 ⟨Nat.le_of_ble_eq_true rfl, Nat.le_of_ble_eq_true rfl⟩) (rX_27 X hP) hP hD hS rfl hl.1 rfl (Nat.le_of_ble_eq_true rfl) (dk DX5_takeFrom 9 rfl) (fun S2 H locs h hP hD hS => ?_)
    refine lv_aload_n hx hb (dk DX5_takeFrom 10 rfl) rfl (lv_at hl 0 rfl) ?_
    refine gX_21 X hP 2 (by decide) rfl lk28 (dk DX5_takeFrom 11 rfl) ?_
    refine lv_aload_n hx hb (dk DX5_takeFrom 12 rfl) rfl (lv_at hl 1 rfl) ?_
    refine gX_1 X hP 2 (by decide) rfl lk28 (dk DX5_takeFrom 13 rfl) ?_
    refine cXv (As := [.ref (q 11)]) (rest := []) X (m_X0_takeFrom_31_11 (l := l) (dC := dC) (dI := dI) (q := q) (cI := cI) (cT := cT) (en := en) (sz := _) S2 h) (cwV 1 X.2.2.2.2.1 (gxV 534 535 536 146 27 rfl rfl rfl rfl rfl) rfl rfl rfl q_X0_takeFrom_31_11 ⟨Nat.le_of_ble_eq_true rfl, Nat.le_of_ble_eq_true rfl⟩) (rX_31 X hP) hP hD hS rfl hl.1 rfl (Nat.le_of_ble_eq_true rfl) (dk DX5_takeFrom 14 rfl) (fun S3 H locs h hP hD hS => ?_)
    refine lv_aload_n hx hb (dk DX5_takeFrom 15 rfl) rfl (lv_at hl 0 rfl) ?_
    refine gX_21 X hP 3 (by decide) rfl lk35 (dk DX5_takeFrom 16 rfl) ?_
    refine lv_aload_n hx hb (dk DX5_takeFrom 17 rfl) rfl (lv_at hl 1 rfl) ?_
    refine gX_1 X hP 3 (by decide) rfl lk35 (dk DX5_takeFrom 18 rfl) ?_
    refine cXv (As := [.ref (q 15)]) (rest := []) X (m_X6_takeFrom_35_15 (l := l) (dC := dC) (dI := dI) (q := q) (cI := cI) (cT := cT) (en := en) (sz := _) S3 h) (cwV 1 X.2.2.2.2.1 (gxV 537 538 539 497 522 rfl rfl rfl rfl rfl) rfl rfl rfl q_X6_takeFrom_35_15 ⟨Nat.le_of_ble_eq_true rfl, Nat.le_of_ble_eq_true rfl⟩) (rX_35 X hP) hP hD hS rfl hl.1 rfl (Nat.le_of_ble_eq_true rfl) (dk DX5_takeFrom 19 rfl) (fun S4 H locs h hP hD hS => ?_)
    refine lv_aload_n hx hb (dk DX5_takeFrom 20 rfl) rfl (lv_at hl 0 rfl) ?_
    refine gX_21 X hP 4 (by decide) rfl lk42 (dk DX5_takeFrom 21 rfl) ?_
    refine lv_aload_n hx hb (dk DX5_takeFrom 22 rfl) rfl (lv_at hl 1 rfl) ?_
    refine gX_1 X hP 4 (by decide) rfl lk42 (dk DX5_takeFrom 23 rfl) ?_
    refine cXv (As := [.ref (q 17)]) (rest := []) X (m_X7_takeFrom_37_17 (l := l) (dC := dC) (dI := dI) (q := q) (cI := cI) (cT := cT) (en := en) (sz := _) S4 h) (cwV 1 X.2.2.2.2.1 (gxV 540 541 542 501 525 rfl rfl rfl rfl rfl) rfl rfl rfl q_X7_takeFrom_37_17 ⟨Nat.le_of_ble_eq_true rfl, Nat.le_of_ble_eq_true rfl⟩) (rX_37 X hP) hP hD hS rfl hl.1 rfl (Nat.le_of_ble_eq_true rfl) (dk DX5_takeFrom 24 rfl) (fun S5 H locs h hP hD hS => ?_)
    refine lv_iconst (v := 0) hx hb (dk DX5_takeFrom 25 rfl) (by decide) ?_
    refine lv_istore_n (lv' := [(2, .int 0), (0, .ref (q 21)), (1, .ref (q 1))]) hx hb (dk DX5_takeFrom 26 rfl) rfl hl (by decide) rfl (fun ls hl => ?_)
    exact h _ _ hP hD hS ls (lv_sub hl [1, 2, 0] rfl)
  · rintro x2 S hB
    exact h_X5_takeFrom_21_1_0 X hr hlocks (hK0 := fun _ _ h => h) x2 S hB

def ww_X11_image_0 : List Cond := .code yX11_image cX11_image 1 (some .int) :: (WdX ++ WsX)
theorem q_X11_image_0 : yX11_image.cls = RX11 ∧ yX11_image.cls ≠ "java/lang/invoke/MethodHandle" ∧ yX11_image.cls ≠ "java/lang/invoke/VarHandle" ∧ (parseMethodDescriptor yX11_image.desc).map (fun d => d.parameters.length) = some 0 := by decide +kernel
def VC_X11_image_0 (Post : Int32 → XS → Prop) (S : XS) : Prop := VC_X5_takeFrom_21_1 (fun S1 => Post (S1.1 352) S1) S
set_option maxHeartbeats 4000000 in
set_option maxRecDepth 100000 in
theorem m_X11_image_0 {l : Launch} {dC : Nat → ClassId} {dI : Nat → Nat → Nat} {q : Nat → Nat} {cI cT : ClassId} {en : Nat → Nat} {sz : Nat} {Post : Int32 → XS → Prop} (S : XS) (h : VC_X11_image_0 Post S) : Met l yX11_image ww_X11_image_0 ({ frames := 4, cells := 0, slots := 0, locals := 104 } : Room) (va_Pc [.ref (q 0)] (preX dC dI q cI cT en S sz)) (va_Qi Post (atX dC dI q cI cT (va_A (wX q cI cT S) sz)) (va_A (wX q cI cT S) sz)) 0 0 (va_A (wX q cI cT S) sz) := by
  refine oX (cc := cX11_image) (maxL := 1) (ret := (some .int)) (Qc := fun A => va_Qi Post (atX dC dI q cI cT A) A) (own := RX11) (by decide) rfl (fun w h => List.mem_cons_of_mem _ (List.mem_append_right _ h)) rfl (Nat.le_of_ble_eq_true rfl) (fun p e s m below meth c A ls X hr hlocks hP hD hS hl => ?_)
  have hx := X.1
  have hb := X.2.1
  have hl : lv_has ls 1 [(0, .ref (q 0))] := hl
  have lk16 := X.2.2.2.2.1 (.fieldLink RX11 16 "BreathOnLoan" "kept" "LBreathOnLoan$State;") (inX 569 rfl)
  have lk12 := X.2.2.2.2.1 (.fieldLink RX11 12 "BreathOnLoan" "now" "LBreathOnLoan$State;") (inX 568 rfl)
  have lk141 := X.2.2.2.2.1 (.fieldLink RX11 141 "BreathOnLoan$State" "bench" "LBreathOnLoan$Bench;") (inX 632 rfl)
  have lk191 := X.2.2.2.2.1 (.fieldLink RX11 191 "BreathOnLoan$Bench" "hour" "I") (inX 650 rfl)
  dsimp only [VC_X11_image_0] at h
  refine lv_aload_n hx hb (dk DX11_image 0 rfl) rfl (lv_at hl 0 rfl) ?_
  refine gX_0 X hP 1 (by decide) rfl lk16 (dk DX11_image 1 rfl) ?_
  refine lv_aload_n hx hb (dk DX11_image 2 rfl) rfl (lv_at hl 0 rfl) ?_
  refine gX_0 X hP 0 (by decide) rfl lk12 (dk DX11_image 3 rfl) ?_
  refine cXv (As := [.ref (q 1)]) (rest := []) X (m_X5_takeFrom_21_1 (l := l) (dC := dC) (dI := dI) (q := q) (cI := cI) (cT := cT) (en := en) (sz := _) S h) (cwV 1 X.2.2.2.2.1 (gxV 760 761 762 67 543 rfl rfl rfl rfl rfl) rfl rfl rfl q_X5_takeFrom_21_1 ⟨Nat.le_of_ble_eq_true rfl, Nat.le_of_ble_eq_true rfl⟩) (rX_21 X hP) hP hD hS rfl hl.1 rfl (Nat.le_of_ble_eq_true rfl) (dk DX11_image 4 rfl) (fun S1 H locs h hP hD hS => ?_)
  refine lv_aload_n hx hb (dk DX11_image 5 rfl) rfl (lv_at hl 0 rfl) ?_
  refine gX_0 X hP 0 (by decide) rfl lk12 (dk DX11_image 6 rfl) ?_
  refine gX_1 X hP 2 (by decide) rfl lk141 (dk DX11_image 7 rfl) ?_
  refine gX_11 X hP 0 (by decide) rfl lk191 (dk DX11_image 8 rfl) ?_
  exact W.iret (v := (S1.1 352)) hx hb hr (fun t ht hW => ⟨⟨_, _, rfl, h, by rw [ht]; exact hP, va_K.moved hW.alike X.2.2.2.2.2.2.1, hD⟩, hS.F ht⟩) hS.2.2 (dk DX11_image 9 rfl)

def ww_X11_copyRow_23_3 : List Cond := .code yX11_copyRow cX11_copyRow 2 none :: (WdX ++ WsX)
theorem q_X11_copyRow_23_3 : yX11_copyRow.cls ≠ "java/lang/invoke/MethodHandle" ∧ yX11_copyRow.cls ≠ "java/lang/invoke/VarHandle" ∧ (parseMethodDescriptor yX11_copyRow.desc).map (fun d => d.parameters.length) = some 2 := by decide +kernel
def VC_X11_copyRow_23_3 (Post : XS → Prop) (S : XS) : Prop := ∀ v1 : Int32, v1 = (if (6 : Int32) < 6 then 6 else 6) → (¬ (0 : Int32) < 0 ∧ ¬ (0 : Int32) < 0 ∧ ¬ v1 < 0 ∧ (0 : Int32).toNatClampNeg + v1.toNatClampNeg ≤ 6 ∧ (0 : Int32).toNatClampNeg + v1.toNatClampNeg ≤ 6) ∧ ∀ S2 : XS, S2 = xF S 3 (va_cpy (S.2.1 23) (S.2.1 3) (0 : Int32).toNatClampNeg (0 : Int32).toNatClampNeg v1.toNatClampNeg) → Post S2
set_option maxHeartbeats 4000000 in
set_option maxRecDepth 100000 in
theorem m_X11_copyRow_23_3 {l : Launch} {dC : Nat → ClassId} {dI : Nat → Nat → Nat} {q : Nat → Nat} {cI cT : ClassId} {en : Nat → Nat} {sz : Nat} {Post : XS → Prop} (S : XS) (h : VC_X11_copyRow_23_3 Post S) : Met l yX11_copyRow ww_X11_copyRow_23_3 ({ frames := 1, cells := 0, slots := 0, locals := 40 } : Room) (va_Pc [.ref (q 23), .ref (q 3)] (preX dC dI q cI cT en S sz)) (va_Qv Post (atX dC dI q cI cT (va_A (wX q cI cT S) sz)) (va_A (wX q cI cT S) sz)) 0 0 (va_A (wX q cI cT S) sz) := by
  refine oX (cc := cX11_copyRow) (maxL := 2) (ret := none) (Qc := fun A => va_Qv Post (atX dC dI q cI cT A) A) (own := RX11) (by decide) rfl (fun w h => List.mem_cons_of_mem _ (List.mem_append_right _ h)) rfl (Nat.le_of_ble_eq_true rfl) (fun p e s m below meth c A ls X hr hlocks hP hD hS hl => ?_)
  have hx := X.1
  have hb := X.2.1
  have hl : lv_has ls 2 [(0, .ref (q 23)), (1, .ref (q 3))] := hl
  dsimp only [VC_X11_copyRow_23_3] at h
  refine lv_aload_n hx hb (dk DX11_copyRow 0 rfl) rfl (lv_at hl 0 rfl) ?_
  refine lv_iconst (v := 0) hx hb (dk DX11_copyRow 1 rfl) (by decide) ?_
  refine lv_aload_n hx hb (dk DX11_copyRow 2 rfl) rfl (lv_at hl 1 rfl) ?_
  refine lv_iconst (v := 0) hx hb (dk DX11_copyRow 3 rfl) (by decide) ?_
  refine lv_aload_n hx hb (dk DX11_copyRow 4 rfl) rfl (lv_at hl 0 rfl) ?_
  refine alX_23 X hP (dk DX11_copyRow 5 rfl) ?_
  refine lv_aload_n hx hb (dk DX11_copyRow 6 rfl) rfl (lv_at hl 1 rfl) ?_
  refine alX_3 X hP (dk DX11_copyRow 7 rfl) ?_
  refine va_mmin hx hb (X.2.2.1.trans hl.1.symm) X.2.2.2.1 (X.2.2.2.2.1 (.methodLink RX11 309 Lib.Math.min.name) (inX 19 rfl)) (X.2.2.2.2.1 (.static Lib.Math.min.name) (inX 20 rfl)) (X.2.2.2.2.1 (.initialized "java/lang/Math") (inX 21 rfl)) (X.2.2.2.2.1 (.code Lib.Math.min.name Lib.Math.min.code 2 (some .int)) (inX 22 rfl)) (Nat.le_of_ble_eq_true rfl) (Nat.le_of_ble_eq_true rfl) (Nat.zero_le _) (Nat.zero_le _) (dk DX11_copyRow 8 rfl) ?_
  refine lv_topi (fun v1 ev1 => ?_)
  have h := h v1 ev1
  obtain ⟨hcp, h⟩ := h
  refine va_copyi hx hb (X.2.2.1.trans hl.1.symm) X.2.2.2.1 (X.2.2.2.2.1 (.methodLink RX11 320 arraycopyName) (inX 23 rfl)) (X.2.2.2.2.1 (.native arraycopyName) (inX 24 rfl)) (X.2.2.2.2.1 (.static arraycopyName) (inX 25 rfl)) (X.2.2.2.2.1 (.initialized "java/lang/System") (inX 26 rfl)) X.2.2.2.2.2.2.1 hP hD hS 23 3 0 0 (ty := .int) rfl rfl rfl rfl rfl hcp.1 hcp.2.1 hcp.2.2.1 hcp.2.2.2.1 hcp.2.2.2.2 (fun _ _ => rfl) (Nat.le_of_ble_eq_true rfl) (Nat.le_of_ble_eq_true rfl) (dk DX11_copyRow 9 rfl) (fun H locs hP hD hS => ?_)
  obtain ⟨S2, eS2⟩ : ∃ z : XS, z = xF S 3 (va_cpy (S.2.1 23) (S.2.1 3) (0 : Int32).toNatClampNeg (0 : Int32).toNatClampNeg v1.toNatClampNeg) := ⟨_, rfl⟩
  have hP : va_P (dC, dI) vwCl (wX q cI cT S2) H := by rw [eS2]; exact hP
  have hD : va_D A (wX q cI cT S2) := by rw [eS2]; exact hD
  have h := h S2 eS2
  exact W.vret hx hb hr (fun t ht hW => ⟨⟨_, rfl, h, by rw [ht]; exact hP, va_K.moved hW.alike X.2.2.2.2.2.2.1, hD⟩, hS.F ht⟩) hS.2.2 (dk DX11_copyRow 10 rfl)

def ww_X11_copyRow_24_4 : List Cond := .code yX11_copyRow cX11_copyRow 2 none :: (WdX ++ WsX)
theorem q_X11_copyRow_24_4 : yX11_copyRow.cls ≠ "java/lang/invoke/MethodHandle" ∧ yX11_copyRow.cls ≠ "java/lang/invoke/VarHandle" ∧ (parseMethodDescriptor yX11_copyRow.desc).map (fun d => d.parameters.length) = some 2 := by decide +kernel
def VC_X11_copyRow_24_4 (Post : XS → Prop) (S : XS) : Prop := ∀ v1 : Int32, v1 = (if (6 : Int32) < 6 then 6 else 6) → (¬ (0 : Int32) < 0 ∧ ¬ (0 : Int32) < 0 ∧ ¬ v1 < 0 ∧ (0 : Int32).toNatClampNeg + v1.toNatClampNeg ≤ 6 ∧ (0 : Int32).toNatClampNeg + v1.toNatClampNeg ≤ 6) ∧ ∀ S2 : XS, S2 = xF S 4 (va_cpy (S.2.1 24) (S.2.1 4) (0 : Int32).toNatClampNeg (0 : Int32).toNatClampNeg v1.toNatClampNeg) → Post S2
set_option maxHeartbeats 4000000 in
set_option maxRecDepth 100000 in
theorem m_X11_copyRow_24_4 {l : Launch} {dC : Nat → ClassId} {dI : Nat → Nat → Nat} {q : Nat → Nat} {cI cT : ClassId} {en : Nat → Nat} {sz : Nat} {Post : XS → Prop} (S : XS) (h : VC_X11_copyRow_24_4 Post S) : Met l yX11_copyRow ww_X11_copyRow_24_4 ({ frames := 1, cells := 0, slots := 0, locals := 40 } : Room) (va_Pc [.ref (q 24), .ref (q 4)] (preX dC dI q cI cT en S sz)) (va_Qv Post (atX dC dI q cI cT (va_A (wX q cI cT S) sz)) (va_A (wX q cI cT S) sz)) 0 0 (va_A (wX q cI cT S) sz) := by
  refine oX (cc := cX11_copyRow) (maxL := 2) (ret := none) (Qc := fun A => va_Qv Post (atX dC dI q cI cT A) A) (own := RX11) (by decide) rfl (fun w h => List.mem_cons_of_mem _ (List.mem_append_right _ h)) rfl (Nat.le_of_ble_eq_true rfl) (fun p e s m below meth c A ls X hr hlocks hP hD hS hl => ?_)
  have hx := X.1
  have hb := X.2.1
  have hl : lv_has ls 2 [(0, .ref (q 24)), (1, .ref (q 4))] := hl
  dsimp only [VC_X11_copyRow_24_4] at h
  refine lv_aload_n hx hb (dk DX11_copyRow 0 rfl) rfl (lv_at hl 0 rfl) ?_
  refine lv_iconst (v := 0) hx hb (dk DX11_copyRow 1 rfl) (by decide) ?_
  refine lv_aload_n hx hb (dk DX11_copyRow 2 rfl) rfl (lv_at hl 1 rfl) ?_
  refine lv_iconst (v := 0) hx hb (dk DX11_copyRow 3 rfl) (by decide) ?_
  refine lv_aload_n hx hb (dk DX11_copyRow 4 rfl) rfl (lv_at hl 0 rfl) ?_
  refine alX_24 X hP (dk DX11_copyRow 5 rfl) ?_
  refine lv_aload_n hx hb (dk DX11_copyRow 6 rfl) rfl (lv_at hl 1 rfl) ?_
  refine alX_4 X hP (dk DX11_copyRow 7 rfl) ?_
  refine va_mmin hx hb (X.2.2.1.trans hl.1.symm) X.2.2.2.1 (X.2.2.2.2.1 (.methodLink RX11 309 Lib.Math.min.name) (inX 19 rfl)) (X.2.2.2.2.1 (.static Lib.Math.min.name) (inX 20 rfl)) (X.2.2.2.2.1 (.initialized "java/lang/Math") (inX 21 rfl)) (X.2.2.2.2.1 (.code Lib.Math.min.name Lib.Math.min.code 2 (some .int)) (inX 22 rfl)) (Nat.le_of_ble_eq_true rfl) (Nat.le_of_ble_eq_true rfl) (Nat.zero_le _) (Nat.zero_le _) (dk DX11_copyRow 8 rfl) ?_
  refine lv_topi (fun v1 ev1 => ?_)
  have h := h v1 ev1
  obtain ⟨hcp, h⟩ := h
  refine va_copyi hx hb (X.2.2.1.trans hl.1.symm) X.2.2.2.1 (X.2.2.2.2.1 (.methodLink RX11 320 arraycopyName) (inX 23 rfl)) (X.2.2.2.2.1 (.native arraycopyName) (inX 24 rfl)) (X.2.2.2.2.1 (.static arraycopyName) (inX 25 rfl)) (X.2.2.2.2.1 (.initialized "java/lang/System") (inX 26 rfl)) X.2.2.2.2.2.2.1 hP hD hS 24 4 0 0 (ty := .int) rfl rfl rfl rfl rfl hcp.1 hcp.2.1 hcp.2.2.1 hcp.2.2.2.1 hcp.2.2.2.2 (fun _ _ => rfl) (Nat.le_of_ble_eq_true rfl) (Nat.le_of_ble_eq_true rfl) (dk DX11_copyRow 9 rfl) (fun H locs hP hD hS => ?_)
  obtain ⟨S2, eS2⟩ : ∃ z : XS, z = xF S 4 (va_cpy (S.2.1 24) (S.2.1 4) (0 : Int32).toNatClampNeg (0 : Int32).toNatClampNeg v1.toNatClampNeg) := ⟨_, rfl⟩
  have hP : va_P (dC, dI) vwCl (wX q cI cT S2) H := by rw [eS2]; exact hP
  have hD : va_D A (wX q cI cT S2) := by rw [eS2]; exact hD
  have h := h S2 eS2
  exact W.vret hx hb hr (fun t ht hW => ⟨⟨_, rfl, h, by rw [ht]; exact hP, va_K.moved hW.alike X.2.2.2.2.2.2.1, hD⟩, hS.F ht⟩) hS.2.2 (dk DX11_copyRow 10 rfl)

def ww_X11_copyRow_25_5 : List Cond := .code yX11_copyRow cX11_copyRow 2 none :: (WdX ++ WsX)
theorem q_X11_copyRow_25_5 : yX11_copyRow.cls ≠ "java/lang/invoke/MethodHandle" ∧ yX11_copyRow.cls ≠ "java/lang/invoke/VarHandle" ∧ (parseMethodDescriptor yX11_copyRow.desc).map (fun d => d.parameters.length) = some 2 := by decide +kernel
def VC_X11_copyRow_25_5 (Post : XS → Prop) (S : XS) : Prop := ∀ v1 : Int32, v1 = (if (6 : Int32) < 6 then 6 else 6) → (¬ (0 : Int32) < 0 ∧ ¬ (0 : Int32) < 0 ∧ ¬ v1 < 0 ∧ (0 : Int32).toNatClampNeg + v1.toNatClampNeg ≤ 6 ∧ (0 : Int32).toNatClampNeg + v1.toNatClampNeg ≤ 6) ∧ ∀ S2 : XS, S2 = xF S 5 (va_cpy (S.2.1 25) (S.2.1 5) (0 : Int32).toNatClampNeg (0 : Int32).toNatClampNeg v1.toNatClampNeg) → Post S2
set_option maxHeartbeats 4000000 in
set_option maxRecDepth 100000 in
theorem m_X11_copyRow_25_5 {l : Launch} {dC : Nat → ClassId} {dI : Nat → Nat → Nat} {q : Nat → Nat} {cI cT : ClassId} {en : Nat → Nat} {sz : Nat} {Post : XS → Prop} (S : XS) (h : VC_X11_copyRow_25_5 Post S) : Met l yX11_copyRow ww_X11_copyRow_25_5 ({ frames := 1, cells := 0, slots := 0, locals := 40 } : Room) (va_Pc [.ref (q 25), .ref (q 5)] (preX dC dI q cI cT en S sz)) (va_Qv Post (atX dC dI q cI cT (va_A (wX q cI cT S) sz)) (va_A (wX q cI cT S) sz)) 0 0 (va_A (wX q cI cT S) sz) := by
  refine oX (cc := cX11_copyRow) (maxL := 2) (ret := none) (Qc := fun A => va_Qv Post (atX dC dI q cI cT A) A) (own := RX11) (by decide) rfl (fun w h => List.mem_cons_of_mem _ (List.mem_append_right _ h)) rfl (Nat.le_of_ble_eq_true rfl) (fun p e s m below meth c A ls X hr hlocks hP hD hS hl => ?_)
  have hx := X.1
  have hb := X.2.1
  have hl : lv_has ls 2 [(0, .ref (q 25)), (1, .ref (q 5))] := hl
  dsimp only [VC_X11_copyRow_25_5] at h
  refine lv_aload_n hx hb (dk DX11_copyRow 0 rfl) rfl (lv_at hl 0 rfl) ?_
  refine lv_iconst (v := 0) hx hb (dk DX11_copyRow 1 rfl) (by decide) ?_
  refine lv_aload_n hx hb (dk DX11_copyRow 2 rfl) rfl (lv_at hl 1 rfl) ?_
  refine lv_iconst (v := 0) hx hb (dk DX11_copyRow 3 rfl) (by decide) ?_
  refine lv_aload_n hx hb (dk DX11_copyRow 4 rfl) rfl (lv_at hl 0 rfl) ?_
  refine alX_25 X hP (dk DX11_copyRow 5 rfl) ?_
  refine lv_aload_n hx hb (dk DX11_copyRow 6 rfl) rfl (lv_at hl 1 rfl) ?_
  refine alX_5 X hP (dk DX11_copyRow 7 rfl) ?_
  refine va_mmin hx hb (X.2.2.1.trans hl.1.symm) X.2.2.2.1 (X.2.2.2.2.1 (.methodLink RX11 309 Lib.Math.min.name) (inX 19 rfl)) (X.2.2.2.2.1 (.static Lib.Math.min.name) (inX 20 rfl)) (X.2.2.2.2.1 (.initialized "java/lang/Math") (inX 21 rfl)) (X.2.2.2.2.1 (.code Lib.Math.min.name Lib.Math.min.code 2 (some .int)) (inX 22 rfl)) (Nat.le_of_ble_eq_true rfl) (Nat.le_of_ble_eq_true rfl) (Nat.zero_le _) (Nat.zero_le _) (dk DX11_copyRow 8 rfl) ?_
  refine lv_topi (fun v1 ev1 => ?_)
  have h := h v1 ev1
  obtain ⟨hcp, h⟩ := h
  refine va_copyi hx hb (X.2.2.1.trans hl.1.symm) X.2.2.2.1 (X.2.2.2.2.1 (.methodLink RX11 320 arraycopyName) (inX 23 rfl)) (X.2.2.2.2.1 (.native arraycopyName) (inX 24 rfl)) (X.2.2.2.2.1 (.static arraycopyName) (inX 25 rfl)) (X.2.2.2.2.1 (.initialized "java/lang/System") (inX 26 rfl)) X.2.2.2.2.2.2.1 hP hD hS 25 5 0 0 (ty := .int) rfl rfl rfl rfl rfl hcp.1 hcp.2.1 hcp.2.2.1 hcp.2.2.2.1 hcp.2.2.2.2 (fun _ _ => rfl) (Nat.le_of_ble_eq_true rfl) (Nat.le_of_ble_eq_true rfl) (dk DX11_copyRow 9 rfl) (fun H locs hP hD hS => ?_)
  obtain ⟨S2, eS2⟩ : ∃ z : XS, z = xF S 5 (va_cpy (S.2.1 25) (S.2.1 5) (0 : Int32).toNatClampNeg (0 : Int32).toNatClampNeg v1.toNatClampNeg) := ⟨_, rfl⟩
  have hP : va_P (dC, dI) vwCl (wX q cI cT S2) H := by rw [eS2]; exact hP
  have hD : va_D A (wX q cI cT S2) := by rw [eS2]; exact hD
  have h := h S2 eS2
  exact W.vret hx hb hr (fun t ht hW => ⟨⟨_, rfl, h, by rw [ht]; exact hP, va_K.moved hW.alike X.2.2.2.2.2.2.1, hD⟩, hS.F ht⟩) hS.2.2 (dk DX11_copyRow 10 rfl)

def ww_X11_copyRow_26_6 : List Cond := .code yX11_copyRow cX11_copyRow 2 none :: (WdX ++ WsX)
theorem q_X11_copyRow_26_6 : yX11_copyRow.cls ≠ "java/lang/invoke/MethodHandle" ∧ yX11_copyRow.cls ≠ "java/lang/invoke/VarHandle" ∧ (parseMethodDescriptor yX11_copyRow.desc).map (fun d => d.parameters.length) = some 2 := by decide +kernel
def VC_X11_copyRow_26_6 (Post : XS → Prop) (S : XS) : Prop := ∀ v1 : Int32, v1 = (if (6 : Int32) < 6 then 6 else 6) → (¬ (0 : Int32) < 0 ∧ ¬ (0 : Int32) < 0 ∧ ¬ v1 < 0 ∧ (0 : Int32).toNatClampNeg + v1.toNatClampNeg ≤ 6 ∧ (0 : Int32).toNatClampNeg + v1.toNatClampNeg ≤ 6) ∧ ∀ S2 : XS, S2 = xF S 6 (va_cpy (S.2.1 26) (S.2.1 6) (0 : Int32).toNatClampNeg (0 : Int32).toNatClampNeg v1.toNatClampNeg) → Post S2
set_option maxHeartbeats 4000000 in
set_option maxRecDepth 100000 in
theorem m_X11_copyRow_26_6 {l : Launch} {dC : Nat → ClassId} {dI : Nat → Nat → Nat} {q : Nat → Nat} {cI cT : ClassId} {en : Nat → Nat} {sz : Nat} {Post : XS → Prop} (S : XS) (h : VC_X11_copyRow_26_6 Post S) : Met l yX11_copyRow ww_X11_copyRow_26_6 ({ frames := 1, cells := 0, slots := 0, locals := 40 } : Room) (va_Pc [.ref (q 26), .ref (q 6)] (preX dC dI q cI cT en S sz)) (va_Qv Post (atX dC dI q cI cT (va_A (wX q cI cT S) sz)) (va_A (wX q cI cT S) sz)) 0 0 (va_A (wX q cI cT S) sz) := by
  refine oX (cc := cX11_copyRow) (maxL := 2) (ret := none) (Qc := fun A => va_Qv Post (atX dC dI q cI cT A) A) (own := RX11) (by decide) rfl (fun w h => List.mem_cons_of_mem _ (List.mem_append_right _ h)) rfl (Nat.le_of_ble_eq_true rfl) (fun p e s m below meth c A ls X hr hlocks hP hD hS hl => ?_)
  have hx := X.1
  have hb := X.2.1
  have hl : lv_has ls 2 [(0, .ref (q 26)), (1, .ref (q 6))] := hl
  dsimp only [VC_X11_copyRow_26_6] at h
  refine lv_aload_n hx hb (dk DX11_copyRow 0 rfl) rfl (lv_at hl 0 rfl) ?_
  refine lv_iconst (v := 0) hx hb (dk DX11_copyRow 1 rfl) (by decide) ?_
  refine lv_aload_n hx hb (dk DX11_copyRow 2 rfl) rfl (lv_at hl 1 rfl) ?_
  refine lv_iconst (v := 0) hx hb (dk DX11_copyRow 3 rfl) (by decide) ?_
  refine lv_aload_n hx hb (dk DX11_copyRow 4 rfl) rfl (lv_at hl 0 rfl) ?_
  refine alX_26 X hP (dk DX11_copyRow 5 rfl) ?_
  refine lv_aload_n hx hb (dk DX11_copyRow 6 rfl) rfl (lv_at hl 1 rfl) ?_
  refine alX_6 X hP (dk DX11_copyRow 7 rfl) ?_
  refine va_mmin hx hb (X.2.2.1.trans hl.1.symm) X.2.2.2.1 (X.2.2.2.2.1 (.methodLink RX11 309 Lib.Math.min.name) (inX 19 rfl)) (X.2.2.2.2.1 (.static Lib.Math.min.name) (inX 20 rfl)) (X.2.2.2.2.1 (.initialized "java/lang/Math") (inX 21 rfl)) (X.2.2.2.2.1 (.code Lib.Math.min.name Lib.Math.min.code 2 (some .int)) (inX 22 rfl)) (Nat.le_of_ble_eq_true rfl) (Nat.le_of_ble_eq_true rfl) (Nat.zero_le _) (Nat.zero_le _) (dk DX11_copyRow 8 rfl) ?_
  refine lv_topi (fun v1 ev1 => ?_)
  have h := h v1 ev1
  obtain ⟨hcp, h⟩ := h
  refine va_copyi hx hb (X.2.2.1.trans hl.1.symm) X.2.2.2.1 (X.2.2.2.2.1 (.methodLink RX11 320 arraycopyName) (inX 23 rfl)) (X.2.2.2.2.1 (.native arraycopyName) (inX 24 rfl)) (X.2.2.2.2.1 (.static arraycopyName) (inX 25 rfl)) (X.2.2.2.2.1 (.initialized "java/lang/System") (inX 26 rfl)) X.2.2.2.2.2.2.1 hP hD hS 26 6 0 0 (ty := .int) rfl rfl rfl rfl rfl hcp.1 hcp.2.1 hcp.2.2.1 hcp.2.2.2.1 hcp.2.2.2.2 (fun _ _ => rfl) (Nat.le_of_ble_eq_true rfl) (Nat.le_of_ble_eq_true rfl) (dk DX11_copyRow 9 rfl) (fun H locs hP hD hS => ?_)
  obtain ⟨S2, eS2⟩ : ∃ z : XS, z = xF S 6 (va_cpy (S.2.1 26) (S.2.1 6) (0 : Int32).toNatClampNeg (0 : Int32).toNatClampNeg v1.toNatClampNeg) := ⟨_, rfl⟩
  have hP : va_P (dC, dI) vwCl (wX q cI cT S2) H := by rw [eS2]; exact hP
  have hD : va_D A (wX q cI cT S2) := by rw [eS2]; exact hD
  have h := h S2 eS2
  exact W.vret hx hb hr (fun t ht hW => ⟨⟨_, rfl, h, by rw [ht]; exact hP, va_K.moved hW.alike X.2.2.2.2.2.2.1, hD⟩, hS.F ht⟩) hS.2.2 (dk DX11_copyRow 10 rfl)

def ww_X1_takeFrom_2_22 : List Cond := .code yX1_takeFrom cX1_takeFrom 2 none :: (WdX ++ WsX)
theorem q_X1_takeFrom_2_22 : yX1_takeFrom.cls = RX1 ∧ yX1_takeFrom.cls ≠ "java/lang/invoke/MethodHandle" ∧ yX1_takeFrom.cls ≠ "java/lang/invoke/VarHandle" ∧ (parseMethodDescriptor yX1_takeFrom.desc).map (fun d => d.parameters.length) = some 1 := by decide +kernel
def VC_X1_takeFrom_2_22 (Post : XS → Prop) (S : XS) : Prop := ∀ v1 : Int32, v1 = (S.1 704) → ∀ S2 : XS, S2 = xI S 64 v1 → VC_X11_copyRow_23_3 (fun S3 => VC_X11_copyRow_24_4 (fun S4 => VC_X11_copyRow_25_5 (fun S5 => VC_X11_copyRow_26_6 (fun S6 => Post S6) S5) S4) S3) S2
set_option maxHeartbeats 4000000 in
set_option maxRecDepth 100000 in
theorem m_X1_takeFrom_2_22 {l : Launch} {dC : Nat → ClassId} {dI : Nat → Nat → Nat} {q : Nat → Nat} {cI cT : ClassId} {en : Nat → Nat} {sz : Nat} {Post : XS → Prop} (S : XS) (h : VC_X1_takeFrom_2_22 Post S) : Met l yX1_takeFrom ww_X1_takeFrom_2_22 ({ frames := 2, cells := 0, slots := 0, locals := 61 } : Room) (va_Pc [.ref (q 2), .ref (q 22)] (preX dC dI q cI cT en S sz)) (va_Qv Post (atX dC dI q cI cT (va_A (wX q cI cT S) sz)) (va_A (wX q cI cT S) sz)) 0 0 (va_A (wX q cI cT S) sz) := by
  refine oX (cc := cX1_takeFrom) (maxL := 2) (ret := none) (Qc := fun A => va_Qv Post (atX dC dI q cI cT A) A) (own := RX1) (by decide) rfl (fun w h => List.mem_cons_of_mem _ (List.mem_append_right _ h)) rfl (Nat.le_of_ble_eq_true rfl) (fun p e s m below meth c A ls X hr hlocks hP hD hS hl => ?_)
  have hx := X.1
  have hb := X.2.1
  have hl : lv_has ls 2 [(0, .ref (q 2)), (1, .ref (q 22))] := hl
  have lk24 := X.2.2.2.2.1 (.fieldLink RX1 24 "BreathOnLoan$Crew" "count" "I") (inX 36 rfl)
  have lk9 := X.2.2.2.2.1 (.fieldLink RX1 9 "BreathOnLoan$Crew" "lungs" "[I") (inX 31 rfl)
  have lk15 := X.2.2.2.2.1 (.fieldLink RX1 15 "BreathOnLoan$Crew" "voice" "[I") (inX 32 rfl)
  have lk18 := X.2.2.2.2.1 (.fieldLink RX1 18 "BreathOnLoan$Crew" "beads" "[I") (inX 33 rfl)
  have lk21 := X.2.2.2.2.1 (.fieldLink RX1 21 "BreathOnLoan$Crew" "foes" "[I") (inX 34 rfl)
  dsimp only [VC_X1_takeFrom_2_22] at h
  refine lv_aload_n hx hb (dk DX1_takeFrom 0 rfl) rfl (lv_at hl 0 rfl) ?_
  refine lv_aload_n hx hb (dk DX1_takeFrom 1 rfl) rfl (lv_at hl 1 rfl) ?_
  refine gX_22 X hP 0 (by decide) rfl lk24 (dk DX1_takeFrom 2 rfl) ?_
  refine lv_topi (fun v1 ev1 => ?_)
  have h := h v1 ev1
  refine pX_2_0 X hP hD hS lk24 (dk DX1_takeFrom 3 rfl) (fun S2 eS2 H locs hP hD hS => ?_)
  have h := h S2 eS2
  refine lv_aload_n hx hb (dk DX1_takeFrom 4 rfl) rfl (lv_at hl 1 rfl) ?_
  refine gX_22 X hP 1 (by decide) rfl lk9 (dk DX1_takeFrom 5 rfl) ?_
  refine lv_aload_n hx hb (dk DX1_takeFrom 6 rfl) rfl (lv_at hl 0 rfl) ?_
  refine gX_2 X hP 1 (by decide) rfl lk9 (dk DX1_takeFrom 7 rfl) ?_
  refine cXnv (As := [.ref (q 23), .ref (q 3)]) (rest := []) X (m_X11_copyRow_23_3 (l := l) (dC := dC) (dI := dI) (q := q) (cI := cI) (cT := cT) (en := en) (sz := _) S2 h) ⟨va_cnB (host := "BreathOnLoan") 2 X.2.2.2.2.1 (gxB (List.mem_of_getElem? (i := 18) rfl)) rfl rfl rfl (X.2.2.2.2.2.2.2.2.1.1 _ (List.mem_of_getElem? (i := 5) rfl)) (X.2.2.2.2.1 (.initialized RX11) (inX 16 rfl)) q_X11_copyRow_23_3 ⟨Nat.le_of_ble_eq_true rfl, Nat.le_of_ble_eq_true rfl⟩, X.2.2.2.2.1 (.static yX11_copyRow) (inX 28 rfl), trivial⟩ hP hD hS rfl hl.1 rfl (Nat.le_of_ble_eq_true rfl) (dk DX1_takeFrom 8 rfl) (fun S3 H locs h hP hD hS => ?_)
  refine lv_aload_n hx hb (dk DX1_takeFrom 9 rfl) rfl (lv_at hl 1 rfl) ?_
  refine gX_22 X hP 2 (by decide) rfl lk15 (dk DX1_takeFrom 10 rfl) ?_
  refine lv_aload_n hx hb (dk DX1_takeFrom 11 rfl) rfl (lv_at hl 0 rfl) ?_
  refine gX_2 X hP 2 (by decide) rfl lk15 (dk DX1_takeFrom 12 rfl) ?_
  refine cXnv (As := [.ref (q 24), .ref (q 4)]) (rest := []) X (m_X11_copyRow_24_4 (l := l) (dC := dC) (dI := dI) (q := q) (cI := cI) (cT := cT) (en := en) (sz := _) S3 h) ⟨va_cnB (host := "BreathOnLoan") 2 X.2.2.2.2.1 (gxB (List.mem_of_getElem? (i := 18) rfl)) rfl rfl rfl (X.2.2.2.2.2.2.2.2.1.1 _ (List.mem_of_getElem? (i := 5) rfl)) (X.2.2.2.2.1 (.initialized RX11) (inX 16 rfl)) q_X11_copyRow_24_4 ⟨Nat.le_of_ble_eq_true rfl, Nat.le_of_ble_eq_true rfl⟩, X.2.2.2.2.1 (.static yX11_copyRow) (inX 28 rfl), trivial⟩ hP hD hS rfl hl.1 rfl (Nat.le_of_ble_eq_true rfl) (dk DX1_takeFrom 13 rfl) (fun S4 H locs h hP hD hS => ?_)
  refine lv_aload_n hx hb (dk DX1_takeFrom 14 rfl) rfl (lv_at hl 1 rfl) ?_
  refine gX_22 X hP 3 (by decide) rfl lk18 (dk DX1_takeFrom 15 rfl) ?_
  refine lv_aload_n hx hb (dk DX1_takeFrom 16 rfl) rfl (lv_at hl 0 rfl) ?_
  refine gX_2 X hP 3 (by decide) rfl lk18 (dk DX1_takeFrom 17 rfl) ?_
  refine cXnv (As := [.ref (q 25), .ref (q 5)]) (rest := []) X (m_X11_copyRow_25_5 (l := l) (dC := dC) (dI := dI) (q := q) (cI := cI) (cT := cT) (en := en) (sz := _) S4 h) ⟨va_cnB (host := "BreathOnLoan") 2 X.2.2.2.2.1 (gxB (List.mem_of_getElem? (i := 18) rfl)) rfl rfl rfl (X.2.2.2.2.2.2.2.2.1.1 _ (List.mem_of_getElem? (i := 5) rfl)) (X.2.2.2.2.1 (.initialized RX11) (inX 16 rfl)) q_X11_copyRow_25_5 ⟨Nat.le_of_ble_eq_true rfl, Nat.le_of_ble_eq_true rfl⟩, X.2.2.2.2.1 (.static yX11_copyRow) (inX 28 rfl), trivial⟩ hP hD hS rfl hl.1 rfl (Nat.le_of_ble_eq_true rfl) (dk DX1_takeFrom 18 rfl) (fun S5 H locs h hP hD hS => ?_)
  refine lv_aload_n hx hb (dk DX1_takeFrom 19 rfl) rfl (lv_at hl 1 rfl) ?_
  refine gX_22 X hP 4 (by decide) rfl lk21 (dk DX1_takeFrom 20 rfl) ?_
  refine lv_aload_n hx hb (dk DX1_takeFrom 21 rfl) rfl (lv_at hl 0 rfl) ?_
  refine gX_2 X hP 4 (by decide) rfl lk21 (dk DX1_takeFrom 22 rfl) ?_
  refine cXnv (As := [.ref (q 26), .ref (q 6)]) (rest := []) X (m_X11_copyRow_26_6 (l := l) (dC := dC) (dI := dI) (q := q) (cI := cI) (cT := cT) (en := en) (sz := _) S5 h) ⟨va_cnB (host := "BreathOnLoan") 2 X.2.2.2.2.1 (gxB (List.mem_of_getElem? (i := 18) rfl)) rfl rfl rfl (X.2.2.2.2.2.2.2.2.1.1 _ (List.mem_of_getElem? (i := 5) rfl)) (X.2.2.2.2.1 (.initialized RX11) (inX 16 rfl)) q_X11_copyRow_26_6 ⟨Nat.le_of_ble_eq_true rfl, Nat.le_of_ble_eq_true rfl⟩, X.2.2.2.2.1 (.static yX11_copyRow) (inX 28 rfl), trivial⟩ hP hD hS rfl hl.1 rfl (Nat.le_of_ble_eq_true rfl) (dk DX1_takeFrom 23 rfl) (fun S6 H locs h hP hD hS => ?_)
  exact W.vret hx hb hr (fun t ht hW => ⟨⟨_, rfl, h, by rw [ht]; exact hP, va_K.moved hW.alike X.2.2.2.2.2.2.1, hD⟩, hS.F ht⟩) hS.2.2 (dk DX1_takeFrom 24 rfl)

def ww_X11_copyRow_28_8 : List Cond := .code yX11_copyRow cX11_copyRow 2 none :: (WdX ++ WsX)
theorem q_X11_copyRow_28_8 : yX11_copyRow.cls ≠ "java/lang/invoke/MethodHandle" ∧ yX11_copyRow.cls ≠ "java/lang/invoke/VarHandle" ∧ (parseMethodDescriptor yX11_copyRow.desc).map (fun d => d.parameters.length) = some 2 := by decide +kernel
def VC_X11_copyRow_28_8 (Post : XS → Prop) (S : XS) : Prop := ∀ v1 : Int32, v1 = (if (6 : Int32) < 6 then 6 else 6) → (¬ (0 : Int32) < 0 ∧ ¬ (0 : Int32) < 0 ∧ ¬ v1 < 0 ∧ (0 : Int32).toNatClampNeg + v1.toNatClampNeg ≤ 6 ∧ (0 : Int32).toNatClampNeg + v1.toNatClampNeg ≤ 6) ∧ ∀ S2 : XS, S2 = xF S 8 (va_cpy (S.2.1 28) (S.2.1 8) (0 : Int32).toNatClampNeg (0 : Int32).toNatClampNeg v1.toNatClampNeg) → Post S2
set_option maxHeartbeats 4000000 in
set_option maxRecDepth 100000 in
theorem m_X11_copyRow_28_8 {l : Launch} {dC : Nat → ClassId} {dI : Nat → Nat → Nat} {q : Nat → Nat} {cI cT : ClassId} {en : Nat → Nat} {sz : Nat} {Post : XS → Prop} (S : XS) (h : VC_X11_copyRow_28_8 Post S) : Met l yX11_copyRow ww_X11_copyRow_28_8 ({ frames := 1, cells := 0, slots := 0, locals := 40 } : Room) (va_Pc [.ref (q 28), .ref (q 8)] (preX dC dI q cI cT en S sz)) (va_Qv Post (atX dC dI q cI cT (va_A (wX q cI cT S) sz)) (va_A (wX q cI cT S) sz)) 0 0 (va_A (wX q cI cT S) sz) := by
  refine oX (cc := cX11_copyRow) (maxL := 2) (ret := none) (Qc := fun A => va_Qv Post (atX dC dI q cI cT A) A) (own := RX11) (by decide) rfl (fun w h => List.mem_cons_of_mem _ (List.mem_append_right _ h)) rfl (Nat.le_of_ble_eq_true rfl) (fun p e s m below meth c A ls X hr hlocks hP hD hS hl => ?_)
  have hx := X.1
  have hb := X.2.1
  have hl : lv_has ls 2 [(0, .ref (q 28)), (1, .ref (q 8))] := hl
  dsimp only [VC_X11_copyRow_28_8] at h
  refine lv_aload_n hx hb (dk DX11_copyRow 0 rfl) rfl (lv_at hl 0 rfl) ?_
  refine lv_iconst (v := 0) hx hb (dk DX11_copyRow 1 rfl) (by decide) ?_
  refine lv_aload_n hx hb (dk DX11_copyRow 2 rfl) rfl (lv_at hl 1 rfl) ?_
  refine lv_iconst (v := 0) hx hb (dk DX11_copyRow 3 rfl) (by decide) ?_
  refine lv_aload_n hx hb (dk DX11_copyRow 4 rfl) rfl (lv_at hl 0 rfl) ?_
  refine alX_28 X hP (dk DX11_copyRow 5 rfl) ?_
  refine lv_aload_n hx hb (dk DX11_copyRow 6 rfl) rfl (lv_at hl 1 rfl) ?_
  refine alX_8 X hP (dk DX11_copyRow 7 rfl) ?_
  refine va_mmin hx hb (X.2.2.1.trans hl.1.symm) X.2.2.2.1 (X.2.2.2.2.1 (.methodLink RX11 309 Lib.Math.min.name) (inX 19 rfl)) (X.2.2.2.2.1 (.static Lib.Math.min.name) (inX 20 rfl)) (X.2.2.2.2.1 (.initialized "java/lang/Math") (inX 21 rfl)) (X.2.2.2.2.1 (.code Lib.Math.min.name Lib.Math.min.code 2 (some .int)) (inX 22 rfl)) (Nat.le_of_ble_eq_true rfl) (Nat.le_of_ble_eq_true rfl) (Nat.zero_le _) (Nat.zero_le _) (dk DX11_copyRow 8 rfl) ?_
  refine lv_topi (fun v1 ev1 => ?_)
  have h := h v1 ev1
  obtain ⟨hcp, h⟩ := h
  refine va_copyi hx hb (X.2.2.1.trans hl.1.symm) X.2.2.2.1 (X.2.2.2.2.1 (.methodLink RX11 320 arraycopyName) (inX 23 rfl)) (X.2.2.2.2.1 (.native arraycopyName) (inX 24 rfl)) (X.2.2.2.2.1 (.static arraycopyName) (inX 25 rfl)) (X.2.2.2.2.1 (.initialized "java/lang/System") (inX 26 rfl)) X.2.2.2.2.2.2.1 hP hD hS 28 8 0 0 (ty := .int) rfl rfl rfl rfl rfl hcp.1 hcp.2.1 hcp.2.2.1 hcp.2.2.2.1 hcp.2.2.2.2 (fun _ _ => rfl) (Nat.le_of_ble_eq_true rfl) (Nat.le_of_ble_eq_true rfl) (dk DX11_copyRow 9 rfl) (fun H locs hP hD hS => ?_)
  obtain ⟨S2, eS2⟩ : ∃ z : XS, z = xF S 8 (va_cpy (S.2.1 28) (S.2.1 8) (0 : Int32).toNatClampNeg (0 : Int32).toNatClampNeg v1.toNatClampNeg) := ⟨_, rfl⟩
  have hP : va_P (dC, dI) vwCl (wX q cI cT S2) H := by rw [eS2]; exact hP
  have hD : va_D A (wX q cI cT S2) := by rw [eS2]; exact hD
  have h := h S2 eS2
  exact W.vret hx hb hr (fun t ht hW => ⟨⟨_, rfl, h, by rw [ht]; exact hP, va_K.moved hW.alike X.2.2.2.2.2.2.1, hD⟩, hS.F ht⟩) hS.2.2 (dk DX11_copyRow 10 rfl)

def ww_X11_copyRow_29_9 : List Cond := .code yX11_copyRow cX11_copyRow 2 none :: (WdX ++ WsX)
theorem q_X11_copyRow_29_9 : yX11_copyRow.cls ≠ "java/lang/invoke/MethodHandle" ∧ yX11_copyRow.cls ≠ "java/lang/invoke/VarHandle" ∧ (parseMethodDescriptor yX11_copyRow.desc).map (fun d => d.parameters.length) = some 2 := by decide +kernel
def VC_X11_copyRow_29_9 (Post : XS → Prop) (S : XS) : Prop := ∀ v1 : Int32, v1 = (if (6 : Int32) < 6 then 6 else 6) → (¬ (0 : Int32) < 0 ∧ ¬ (0 : Int32) < 0 ∧ ¬ v1 < 0 ∧ (0 : Int32).toNatClampNeg + v1.toNatClampNeg ≤ 6 ∧ (0 : Int32).toNatClampNeg + v1.toNatClampNeg ≤ 6) ∧ ∀ S2 : XS, S2 = xF S 9 (va_cpy (S.2.1 29) (S.2.1 9) (0 : Int32).toNatClampNeg (0 : Int32).toNatClampNeg v1.toNatClampNeg) → Post S2
set_option maxHeartbeats 4000000 in
set_option maxRecDepth 100000 in
theorem m_X11_copyRow_29_9 {l : Launch} {dC : Nat → ClassId} {dI : Nat → Nat → Nat} {q : Nat → Nat} {cI cT : ClassId} {en : Nat → Nat} {sz : Nat} {Post : XS → Prop} (S : XS) (h : VC_X11_copyRow_29_9 Post S) : Met l yX11_copyRow ww_X11_copyRow_29_9 ({ frames := 1, cells := 0, slots := 0, locals := 40 } : Room) (va_Pc [.ref (q 29), .ref (q 9)] (preX dC dI q cI cT en S sz)) (va_Qv Post (atX dC dI q cI cT (va_A (wX q cI cT S) sz)) (va_A (wX q cI cT S) sz)) 0 0 (va_A (wX q cI cT S) sz) := by
  refine oX (cc := cX11_copyRow) (maxL := 2) (ret := none) (Qc := fun A => va_Qv Post (atX dC dI q cI cT A) A) (own := RX11) (by decide) rfl (fun w h => List.mem_cons_of_mem _ (List.mem_append_right _ h)) rfl (Nat.le_of_ble_eq_true rfl) (fun p e s m below meth c A ls X hr hlocks hP hD hS hl => ?_)
  have hx := X.1
  have hb := X.2.1
  have hl : lv_has ls 2 [(0, .ref (q 29)), (1, .ref (q 9))] := hl
  dsimp only [VC_X11_copyRow_29_9] at h
  refine lv_aload_n hx hb (dk DX11_copyRow 0 rfl) rfl (lv_at hl 0 rfl) ?_
  refine lv_iconst (v := 0) hx hb (dk DX11_copyRow 1 rfl) (by decide) ?_
  refine lv_aload_n hx hb (dk DX11_copyRow 2 rfl) rfl (lv_at hl 1 rfl) ?_
  refine lv_iconst (v := 0) hx hb (dk DX11_copyRow 3 rfl) (by decide) ?_
  refine lv_aload_n hx hb (dk DX11_copyRow 4 rfl) rfl (lv_at hl 0 rfl) ?_
  refine alX_29 X hP (dk DX11_copyRow 5 rfl) ?_
  refine lv_aload_n hx hb (dk DX11_copyRow 6 rfl) rfl (lv_at hl 1 rfl) ?_
  refine alX_9 X hP (dk DX11_copyRow 7 rfl) ?_
  refine va_mmin hx hb (X.2.2.1.trans hl.1.symm) X.2.2.2.1 (X.2.2.2.2.1 (.methodLink RX11 309 Lib.Math.min.name) (inX 19 rfl)) (X.2.2.2.2.1 (.static Lib.Math.min.name) (inX 20 rfl)) (X.2.2.2.2.1 (.initialized "java/lang/Math") (inX 21 rfl)) (X.2.2.2.2.1 (.code Lib.Math.min.name Lib.Math.min.code 2 (some .int)) (inX 22 rfl)) (Nat.le_of_ble_eq_true rfl) (Nat.le_of_ble_eq_true rfl) (Nat.zero_le _) (Nat.zero_le _) (dk DX11_copyRow 8 rfl) ?_
  refine lv_topi (fun v1 ev1 => ?_)
  have h := h v1 ev1
  obtain ⟨hcp, h⟩ := h
  refine va_copyi hx hb (X.2.2.1.trans hl.1.symm) X.2.2.2.1 (X.2.2.2.2.1 (.methodLink RX11 320 arraycopyName) (inX 23 rfl)) (X.2.2.2.2.1 (.native arraycopyName) (inX 24 rfl)) (X.2.2.2.2.1 (.static arraycopyName) (inX 25 rfl)) (X.2.2.2.2.1 (.initialized "java/lang/System") (inX 26 rfl)) X.2.2.2.2.2.2.1 hP hD hS 29 9 0 0 (ty := .int) rfl rfl rfl rfl rfl hcp.1 hcp.2.1 hcp.2.2.1 hcp.2.2.2.1 hcp.2.2.2.2 (fun _ _ => rfl) (Nat.le_of_ble_eq_true rfl) (Nat.le_of_ble_eq_true rfl) (dk DX11_copyRow 9 rfl) (fun H locs hP hD hS => ?_)
  obtain ⟨S2, eS2⟩ : ∃ z : XS, z = xF S 9 (va_cpy (S.2.1 29) (S.2.1 9) (0 : Int32).toNatClampNeg (0 : Int32).toNatClampNeg v1.toNatClampNeg) := ⟨_, rfl⟩
  have hP : va_P (dC, dI) vwCl (wX q cI cT S2) H := by rw [eS2]; exact hP
  have hD : va_D A (wX q cI cT S2) := by rw [eS2]; exact hD
  have h := h S2 eS2
  exact W.vret hx hb hr (fun t ht hW => ⟨⟨_, rfl, h, by rw [ht]; exact hP, va_K.moved hW.alike X.2.2.2.2.2.2.1, hD⟩, hS.F ht⟩) hS.2.2 (dk DX11_copyRow 10 rfl)

def ww_X11_copyRow_30_10 : List Cond := .code yX11_copyRow cX11_copyRow 2 none :: (WdX ++ WsX)
theorem q_X11_copyRow_30_10 : yX11_copyRow.cls ≠ "java/lang/invoke/MethodHandle" ∧ yX11_copyRow.cls ≠ "java/lang/invoke/VarHandle" ∧ (parseMethodDescriptor yX11_copyRow.desc).map (fun d => d.parameters.length) = some 2 := by decide +kernel
def VC_X11_copyRow_30_10 (Post : XS → Prop) (S : XS) : Prop := ∀ v1 : Int32, v1 = (if (6 : Int32) < 6 then 6 else 6) → (¬ (0 : Int32) < 0 ∧ ¬ (0 : Int32) < 0 ∧ ¬ v1 < 0 ∧ (0 : Int32).toNatClampNeg + v1.toNatClampNeg ≤ 6 ∧ (0 : Int32).toNatClampNeg + v1.toNatClampNeg ≤ 6) ∧ ∀ S2 : XS, S2 = xF S 10 (va_cpy (S.2.1 30) (S.2.1 10) (0 : Int32).toNatClampNeg (0 : Int32).toNatClampNeg v1.toNatClampNeg) → Post S2
set_option maxHeartbeats 4000000 in
set_option maxRecDepth 100000 in
theorem m_X11_copyRow_30_10 {l : Launch} {dC : Nat → ClassId} {dI : Nat → Nat → Nat} {q : Nat → Nat} {cI cT : ClassId} {en : Nat → Nat} {sz : Nat} {Post : XS → Prop} (S : XS) (h : VC_X11_copyRow_30_10 Post S) : Met l yX11_copyRow ww_X11_copyRow_30_10 ({ frames := 1, cells := 0, slots := 0, locals := 40 } : Room) (va_Pc [.ref (q 30), .ref (q 10)] (preX dC dI q cI cT en S sz)) (va_Qv Post (atX dC dI q cI cT (va_A (wX q cI cT S) sz)) (va_A (wX q cI cT S) sz)) 0 0 (va_A (wX q cI cT S) sz) := by
  refine oX (cc := cX11_copyRow) (maxL := 2) (ret := none) (Qc := fun A => va_Qv Post (atX dC dI q cI cT A) A) (own := RX11) (by decide) rfl (fun w h => List.mem_cons_of_mem _ (List.mem_append_right _ h)) rfl (Nat.le_of_ble_eq_true rfl) (fun p e s m below meth c A ls X hr hlocks hP hD hS hl => ?_)
  have hx := X.1
  have hb := X.2.1
  have hl : lv_has ls 2 [(0, .ref (q 30)), (1, .ref (q 10))] := hl
  dsimp only [VC_X11_copyRow_30_10] at h
  refine lv_aload_n hx hb (dk DX11_copyRow 0 rfl) rfl (lv_at hl 0 rfl) ?_
  refine lv_iconst (v := 0) hx hb (dk DX11_copyRow 1 rfl) (by decide) ?_
  refine lv_aload_n hx hb (dk DX11_copyRow 2 rfl) rfl (lv_at hl 1 rfl) ?_
  refine lv_iconst (v := 0) hx hb (dk DX11_copyRow 3 rfl) (by decide) ?_
  refine lv_aload_n hx hb (dk DX11_copyRow 4 rfl) rfl (lv_at hl 0 rfl) ?_
  refine alX_30 X hP (dk DX11_copyRow 5 rfl) ?_
  refine lv_aload_n hx hb (dk DX11_copyRow 6 rfl) rfl (lv_at hl 1 rfl) ?_
  refine alX_10 X hP (dk DX11_copyRow 7 rfl) ?_
  refine va_mmin hx hb (X.2.2.1.trans hl.1.symm) X.2.2.2.1 (X.2.2.2.2.1 (.methodLink RX11 309 Lib.Math.min.name) (inX 19 rfl)) (X.2.2.2.2.1 (.static Lib.Math.min.name) (inX 20 rfl)) (X.2.2.2.2.1 (.initialized "java/lang/Math") (inX 21 rfl)) (X.2.2.2.2.1 (.code Lib.Math.min.name Lib.Math.min.code 2 (some .int)) (inX 22 rfl)) (Nat.le_of_ble_eq_true rfl) (Nat.le_of_ble_eq_true rfl) (Nat.zero_le _) (Nat.zero_le _) (dk DX11_copyRow 8 rfl) ?_
  refine lv_topi (fun v1 ev1 => ?_)
  have h := h v1 ev1
  obtain ⟨hcp, h⟩ := h
  refine va_copyi hx hb (X.2.2.1.trans hl.1.symm) X.2.2.2.1 (X.2.2.2.2.1 (.methodLink RX11 320 arraycopyName) (inX 23 rfl)) (X.2.2.2.2.1 (.native arraycopyName) (inX 24 rfl)) (X.2.2.2.2.1 (.static arraycopyName) (inX 25 rfl)) (X.2.2.2.2.1 (.initialized "java/lang/System") (inX 26 rfl)) X.2.2.2.2.2.2.1 hP hD hS 30 10 0 0 (ty := .int) rfl rfl rfl rfl rfl hcp.1 hcp.2.1 hcp.2.2.1 hcp.2.2.2.1 hcp.2.2.2.2 (fun _ _ => rfl) (Nat.le_of_ble_eq_true rfl) (Nat.le_of_ble_eq_true rfl) (dk DX11_copyRow 9 rfl) (fun H locs hP hD hS => ?_)
  obtain ⟨S2, eS2⟩ : ∃ z : XS, z = xF S 10 (va_cpy (S.2.1 30) (S.2.1 10) (0 : Int32).toNatClampNeg (0 : Int32).toNatClampNeg v1.toNatClampNeg) := ⟨_, rfl⟩
  have hP : va_P (dC, dI) vwCl (wX q cI cT S2) H := by rw [eS2]; exact hP
  have hD : va_D A (wX q cI cT S2) := by rw [eS2]; exact hD
  have h := h S2 eS2
  exact W.vret hx hb hr (fun t ht hW => ⟨⟨_, rfl, h, by rw [ht]; exact hP, va_K.moved hW.alike X.2.2.2.2.2.2.1, hD⟩, hS.F ht⟩) hS.2.2 (dk DX11_copyRow 10 rfl)

def ww_X10_takeFrom_7_27 : List Cond := .code yX10_takeFrom cX10_takeFrom 2 none :: (WdX ++ WsX)
theorem q_X10_takeFrom_7_27 : yX10_takeFrom.cls = RX10 ∧ yX10_takeFrom.cls ≠ "java/lang/invoke/MethodHandle" ∧ yX10_takeFrom.cls ≠ "java/lang/invoke/VarHandle" ∧ (parseMethodDescriptor yX10_takeFrom.desc).map (fun d => d.parameters.length) = some 1 := by decide +kernel
def VC_X10_takeFrom_7_27 (Post : XS → Prop) (S : XS) : Prop := ∀ v1 : Int32, v1 = (S.1 864) → ∀ S2 : XS, S2 = xI S 224 v1 → VC_X11_copyRow_28_8 (fun S3 => VC_X11_copyRow_29_9 (fun S4 => VC_X11_copyRow_30_10 (fun S5 => Post S5) S4) S3) S2
set_option maxHeartbeats 4000000 in
set_option maxRecDepth 100000 in
theorem m_X10_takeFrom_7_27 {l : Launch} {dC : Nat → ClassId} {dI : Nat → Nat → Nat} {q : Nat → Nat} {cI cT : ClassId} {en : Nat → Nat} {sz : Nat} {Post : XS → Prop} (S : XS) (h : VC_X10_takeFrom_7_27 Post S) : Met l yX10_takeFrom ww_X10_takeFrom_7_27 ({ frames := 2, cells := 0, slots := 0, locals := 61 } : Room) (va_Pc [.ref (q 7), .ref (q 27)] (preX dC dI q cI cT en S sz)) (va_Qv Post (atX dC dI q cI cT (va_A (wX q cI cT S) sz)) (va_A (wX q cI cT S) sz)) 0 0 (va_A (wX q cI cT S) sz) := by
  refine oX (cc := cX10_takeFrom) (maxL := 2) (ret := none) (Qc := fun A => va_Qv Post (atX dC dI q cI cT A) A) (own := RX10) (by decide) rfl (fun w h => List.mem_cons_of_mem _ (List.mem_append_right _ h)) rfl (Nat.le_of_ble_eq_true rfl) (fun p e s m below meth c A ls X hr hlocks hP hD hS hl => ?_)
  have hx := X.1
  have hb := X.2.1
  have hl : lv_has ls 2 [(0, .ref (q 7)), (1, .ref (q 27))] := hl
  have lk21 := X.2.2.2.2.1 (.fieldLink RX10 21 "BreathOnLoan$Wares" "count" "I") (inX 136 rfl)
  have lk9 := X.2.2.2.2.1 (.fieldLink RX10 9 "BreathOnLoan$Wares" "want" "[I") (inX 475 rfl)
  have lk15 := X.2.2.2.2.1 (.fieldLink RX10 15 "BreathOnLoan$Wares" "voices" "[I") (inX 476 rfl)
  have lk18 := X.2.2.2.2.1 (.fieldLink RX10 18 "BreathOnLoan$Wares" "worth" "[I") (inX 477 rfl)
  dsimp only [VC_X10_takeFrom_7_27] at h
  refine lv_aload_n hx hb (dk DX10_takeFrom 0 rfl) rfl (lv_at hl 0 rfl) ?_
  refine lv_aload_n hx hb (dk DX10_takeFrom 1 rfl) rfl (lv_at hl 1 rfl) ?_
  refine gX_27 X hP 0 (by decide) rfl lk21 (dk DX10_takeFrom 2 rfl) ?_
  refine lv_topi (fun v1 ev1 => ?_)
  have h := h v1 ev1
  refine pX_7_0 X hP hD hS lk21 (dk DX10_takeFrom 3 rfl) (fun S2 eS2 H locs hP hD hS => ?_)
  have h := h S2 eS2
  refine lv_aload_n hx hb (dk DX10_takeFrom 4 rfl) rfl (lv_at hl 1 rfl) ?_
  refine gX_27 X hP 1 (by decide) rfl lk9 (dk DX10_takeFrom 5 rfl) ?_
  refine lv_aload_n hx hb (dk DX10_takeFrom 6 rfl) rfl (lv_at hl 0 rfl) ?_
  refine gX_7 X hP 1 (by decide) rfl lk9 (dk DX10_takeFrom 7 rfl) ?_
  refine cXnv (As := [.ref (q 28), .ref (q 8)]) (rest := []) X (m_X11_copyRow_28_8 (l := l) (dC := dC) (dI := dI) (q := q) (cI := cI) (cT := cT) (en := en) (sz := _) S2 h) ⟨va_cnB (host := "BreathOnLoan") 2 X.2.2.2.2.1 (gxB (List.mem_of_getElem? (i := 18) rfl)) rfl rfl rfl (X.2.2.2.2.2.2.2.2.1.1 _ (List.mem_of_getElem? (i := 6) rfl)) (X.2.2.2.2.1 (.initialized RX11) (inX 16 rfl)) q_X11_copyRow_28_8 ⟨Nat.le_of_ble_eq_true rfl, Nat.le_of_ble_eq_true rfl⟩, X.2.2.2.2.1 (.static yX11_copyRow) (inX 28 rfl), trivial⟩ hP hD hS rfl hl.1 rfl (Nat.le_of_ble_eq_true rfl) (dk DX10_takeFrom 8 rfl) (fun S3 H locs h hP hD hS => ?_)
  refine lv_aload_n hx hb (dk DX10_takeFrom 9 rfl) rfl (lv_at hl 1 rfl) ?_
  refine gX_27 X hP 2 (by decide) rfl lk15 (dk DX10_takeFrom 10 rfl) ?_
  refine lv_aload_n hx hb (dk DX10_takeFrom 11 rfl) rfl (lv_at hl 0 rfl) ?_
  refine gX_7 X hP 2 (by decide) rfl lk15 (dk DX10_takeFrom 12 rfl) ?_
  refine cXnv (As := [.ref (q 29), .ref (q 9)]) (rest := []) X (m_X11_copyRow_29_9 (l := l) (dC := dC) (dI := dI) (q := q) (cI := cI) (cT := cT) (en := en) (sz := _) S3 h) ⟨va_cnB (host := "BreathOnLoan") 2 X.2.2.2.2.1 (gxB (List.mem_of_getElem? (i := 18) rfl)) rfl rfl rfl (X.2.2.2.2.2.2.2.2.1.1 _ (List.mem_of_getElem? (i := 6) rfl)) (X.2.2.2.2.1 (.initialized RX11) (inX 16 rfl)) q_X11_copyRow_29_9 ⟨Nat.le_of_ble_eq_true rfl, Nat.le_of_ble_eq_true rfl⟩, X.2.2.2.2.1 (.static yX11_copyRow) (inX 28 rfl), trivial⟩ hP hD hS rfl hl.1 rfl (Nat.le_of_ble_eq_true rfl) (dk DX10_takeFrom 13 rfl) (fun S4 H locs h hP hD hS => ?_)
  refine lv_aload_n hx hb (dk DX10_takeFrom 14 rfl) rfl (lv_at hl 1 rfl) ?_
  refine gX_27 X hP 3 (by decide) rfl lk18 (dk DX10_takeFrom 15 rfl) ?_
  refine lv_aload_n hx hb (dk DX10_takeFrom 16 rfl) rfl (lv_at hl 0 rfl) ?_
  refine gX_7 X hP 3 (by decide) rfl lk18 (dk DX10_takeFrom 17 rfl) ?_
  refine cXnv (As := [.ref (q 30), .ref (q 10)]) (rest := []) X (m_X11_copyRow_30_10 (l := l) (dC := dC) (dI := dI) (q := q) (cI := cI) (cT := cT) (en := en) (sz := _) S4 h) ⟨va_cnB (host := "BreathOnLoan") 2 X.2.2.2.2.1 (gxB (List.mem_of_getElem? (i := 18) rfl)) rfl rfl rfl (X.2.2.2.2.2.2.2.2.1.1 _ (List.mem_of_getElem? (i := 6) rfl)) (X.2.2.2.2.1 (.initialized RX11) (inX 16 rfl)) q_X11_copyRow_30_10 ⟨Nat.le_of_ble_eq_true rfl, Nat.le_of_ble_eq_true rfl⟩, X.2.2.2.2.1 (.static yX11_copyRow) (inX 28 rfl), trivial⟩ hP hD hS rfl hl.1 rfl (Nat.le_of_ble_eq_true rfl) (dk DX10_takeFrom 18 rfl) (fun S5 H locs h hP hD hS => ?_)
  exact W.vret hx hb hr (fun t ht hW => ⟨⟨_, rfl, h, by rw [ht]; exact hP, va_K.moved hW.alike X.2.2.2.2.2.2.1, hD⟩, hS.F ht⟩) hS.2.2 (dk DX10_takeFrom 19 rfl)

def ww_X11_copyRow_32_12 : List Cond := .code yX11_copyRow cX11_copyRow 2 none :: (WdX ++ WsX)
theorem q_X11_copyRow_32_12 : yX11_copyRow.cls ≠ "java/lang/invoke/MethodHandle" ∧ yX11_copyRow.cls ≠ "java/lang/invoke/VarHandle" ∧ (parseMethodDescriptor yX11_copyRow.desc).map (fun d => d.parameters.length) = some 2 := by decide +kernel
def VC_X11_copyRow_32_12 (Post : XS → Prop) (S : XS) : Prop := ∀ v1 : Int32, v1 = (if (10 : Int32) < 10 then 10 else 10) → (¬ (0 : Int32) < 0 ∧ ¬ (0 : Int32) < 0 ∧ ¬ v1 < 0 ∧ (0 : Int32).toNatClampNeg + v1.toNatClampNeg ≤ 10 ∧ (0 : Int32).toNatClampNeg + v1.toNatClampNeg ≤ 10) ∧ ∀ S2 : XS, S2 = xF S 12 (va_cpy (S.2.1 32) (S.2.1 12) (0 : Int32).toNatClampNeg (0 : Int32).toNatClampNeg v1.toNatClampNeg) → Post S2
set_option maxHeartbeats 4000000 in
set_option maxRecDepth 100000 in
theorem m_X11_copyRow_32_12 {l : Launch} {dC : Nat → ClassId} {dI : Nat → Nat → Nat} {q : Nat → Nat} {cI cT : ClassId} {en : Nat → Nat} {sz : Nat} {Post : XS → Prop} (S : XS) (h : VC_X11_copyRow_32_12 Post S) : Met l yX11_copyRow ww_X11_copyRow_32_12 ({ frames := 1, cells := 0, slots := 0, locals := 40 } : Room) (va_Pc [.ref (q 32), .ref (q 12)] (preX dC dI q cI cT en S sz)) (va_Qv Post (atX dC dI q cI cT (va_A (wX q cI cT S) sz)) (va_A (wX q cI cT S) sz)) 0 0 (va_A (wX q cI cT S) sz) := by
  refine oX (cc := cX11_copyRow) (maxL := 2) (ret := none) (Qc := fun A => va_Qv Post (atX dC dI q cI cT A) A) (own := RX11) (by decide) rfl (fun w h => List.mem_cons_of_mem _ (List.mem_append_right _ h)) rfl (Nat.le_of_ble_eq_true rfl) (fun p e s m below meth c A ls X hr hlocks hP hD hS hl => ?_)
  have hx := X.1
  have hb := X.2.1
  have hl : lv_has ls 2 [(0, .ref (q 32)), (1, .ref (q 12))] := hl
  dsimp only [VC_X11_copyRow_32_12] at h
  refine lv_aload_n hx hb (dk DX11_copyRow 0 rfl) rfl (lv_at hl 0 rfl) ?_
  refine lv_iconst (v := 0) hx hb (dk DX11_copyRow 1 rfl) (by decide) ?_
  refine lv_aload_n hx hb (dk DX11_copyRow 2 rfl) rfl (lv_at hl 1 rfl) ?_
  refine lv_iconst (v := 0) hx hb (dk DX11_copyRow 3 rfl) (by decide) ?_
  refine lv_aload_n hx hb (dk DX11_copyRow 4 rfl) rfl (lv_at hl 0 rfl) ?_
  refine alX_32 X hP (dk DX11_copyRow 5 rfl) ?_
  refine lv_aload_n hx hb (dk DX11_copyRow 6 rfl) rfl (lv_at hl 1 rfl) ?_
  refine alX_12 X hP (dk DX11_copyRow 7 rfl) ?_
  refine va_mmin hx hb (X.2.2.1.trans hl.1.symm) X.2.2.2.1 (X.2.2.2.2.1 (.methodLink RX11 309 Lib.Math.min.name) (inX 19 rfl)) (X.2.2.2.2.1 (.static Lib.Math.min.name) (inX 20 rfl)) (X.2.2.2.2.1 (.initialized "java/lang/Math") (inX 21 rfl)) (X.2.2.2.2.1 (.code Lib.Math.min.name Lib.Math.min.code 2 (some .int)) (inX 22 rfl)) (Nat.le_of_ble_eq_true rfl) (Nat.le_of_ble_eq_true rfl) (Nat.zero_le _) (Nat.zero_le _) (dk DX11_copyRow 8 rfl) ?_
  refine lv_topi (fun v1 ev1 => ?_)
  have h := h v1 ev1
  obtain ⟨hcp, h⟩ := h
  refine va_copyi hx hb (X.2.2.1.trans hl.1.symm) X.2.2.2.1 (X.2.2.2.2.1 (.methodLink RX11 320 arraycopyName) (inX 23 rfl)) (X.2.2.2.2.1 (.native arraycopyName) (inX 24 rfl)) (X.2.2.2.2.1 (.static arraycopyName) (inX 25 rfl)) (X.2.2.2.2.1 (.initialized "java/lang/System") (inX 26 rfl)) X.2.2.2.2.2.2.1 hP hD hS 32 12 0 0 (ty := .int) rfl rfl rfl rfl rfl hcp.1 hcp.2.1 hcp.2.2.1 hcp.2.2.2.1 hcp.2.2.2.2 (fun _ _ => rfl) (Nat.le_of_ble_eq_true rfl) (Nat.le_of_ble_eq_true rfl) (dk DX11_copyRow 9 rfl) (fun H locs hP hD hS => ?_)
  obtain ⟨S2, eS2⟩ : ∃ z : XS, z = xF S 12 (va_cpy (S.2.1 32) (S.2.1 12) (0 : Int32).toNatClampNeg (0 : Int32).toNatClampNeg v1.toNatClampNeg) := ⟨_, rfl⟩
  have hP : va_P (dC, dI) vwCl (wX q cI cT S2) H := by rw [eS2]; exact hP
  have hD : va_D A (wX q cI cT S2) := by rw [eS2]; exact hD
  have h := h S2 eS2
  exact W.vret hx hb hr (fun t ht hW => ⟨⟨_, rfl, h, by rw [ht]; exact hP, va_K.moved hW.alike X.2.2.2.2.2.2.1, hD⟩, hS.F ht⟩) hS.2.2 (dk DX11_copyRow 10 rfl)

def ww_X11_copyRow_33_13 : List Cond := .code yX11_copyRow cX11_copyRow 2 none :: (WdX ++ WsX)
theorem q_X11_copyRow_33_13 : yX11_copyRow.cls ≠ "java/lang/invoke/MethodHandle" ∧ yX11_copyRow.cls ≠ "java/lang/invoke/VarHandle" ∧ (parseMethodDescriptor yX11_copyRow.desc).map (fun d => d.parameters.length) = some 2 := by decide +kernel
def VC_X11_copyRow_33_13 (Post : XS → Prop) (S : XS) : Prop := ∀ v1 : Int32, v1 = (if (10 : Int32) < 10 then 10 else 10) → (¬ (0 : Int32) < 0 ∧ ¬ (0 : Int32) < 0 ∧ ¬ v1 < 0 ∧ (0 : Int32).toNatClampNeg + v1.toNatClampNeg ≤ 10 ∧ (0 : Int32).toNatClampNeg + v1.toNatClampNeg ≤ 10) ∧ ∀ S2 : XS, S2 = xF S 13 (va_cpy (S.2.1 33) (S.2.1 13) (0 : Int32).toNatClampNeg (0 : Int32).toNatClampNeg v1.toNatClampNeg) → Post S2
set_option maxHeartbeats 4000000 in
set_option maxRecDepth 100000 in
theorem m_X11_copyRow_33_13 {l : Launch} {dC : Nat → ClassId} {dI : Nat → Nat → Nat} {q : Nat → Nat} {cI cT : ClassId} {en : Nat → Nat} {sz : Nat} {Post : XS → Prop} (S : XS) (h : VC_X11_copyRow_33_13 Post S) : Met l yX11_copyRow ww_X11_copyRow_33_13 ({ frames := 1, cells := 0, slots := 0, locals := 40 } : Room) (va_Pc [.ref (q 33), .ref (q 13)] (preX dC dI q cI cT en S sz)) (va_Qv Post (atX dC dI q cI cT (va_A (wX q cI cT S) sz)) (va_A (wX q cI cT S) sz)) 0 0 (va_A (wX q cI cT S) sz) := by
  refine oX (cc := cX11_copyRow) (maxL := 2) (ret := none) (Qc := fun A => va_Qv Post (atX dC dI q cI cT A) A) (own := RX11) (by decide) rfl (fun w h => List.mem_cons_of_mem _ (List.mem_append_right _ h)) rfl (Nat.le_of_ble_eq_true rfl) (fun p e s m below meth c A ls X hr hlocks hP hD hS hl => ?_)
  have hx := X.1
  have hb := X.2.1
  have hl : lv_has ls 2 [(0, .ref (q 33)), (1, .ref (q 13))] := hl
  dsimp only [VC_X11_copyRow_33_13] at h
  refine lv_aload_n hx hb (dk DX11_copyRow 0 rfl) rfl (lv_at hl 0 rfl) ?_
  refine lv_iconst (v := 0) hx hb (dk DX11_copyRow 1 rfl) (by decide) ?_
  refine lv_aload_n hx hb (dk DX11_copyRow 2 rfl) rfl (lv_at hl 1 rfl) ?_
  refine lv_iconst (v := 0) hx hb (dk DX11_copyRow 3 rfl) (by decide) ?_
  refine lv_aload_n hx hb (dk DX11_copyRow 4 rfl) rfl (lv_at hl 0 rfl) ?_
  refine alX_33 X hP (dk DX11_copyRow 5 rfl) ?_
  refine lv_aload_n hx hb (dk DX11_copyRow 6 rfl) rfl (lv_at hl 1 rfl) ?_
  refine alX_13 X hP (dk DX11_copyRow 7 rfl) ?_
  refine va_mmin hx hb (X.2.2.1.trans hl.1.symm) X.2.2.2.1 (X.2.2.2.2.1 (.methodLink RX11 309 Lib.Math.min.name) (inX 19 rfl)) (X.2.2.2.2.1 (.static Lib.Math.min.name) (inX 20 rfl)) (X.2.2.2.2.1 (.initialized "java/lang/Math") (inX 21 rfl)) (X.2.2.2.2.1 (.code Lib.Math.min.name Lib.Math.min.code 2 (some .int)) (inX 22 rfl)) (Nat.le_of_ble_eq_true rfl) (Nat.le_of_ble_eq_true rfl) (Nat.zero_le _) (Nat.zero_le _) (dk DX11_copyRow 8 rfl) ?_
  refine lv_topi (fun v1 ev1 => ?_)
  have h := h v1 ev1
  obtain ⟨hcp, h⟩ := h
  refine va_copyi hx hb (X.2.2.1.trans hl.1.symm) X.2.2.2.1 (X.2.2.2.2.1 (.methodLink RX11 320 arraycopyName) (inX 23 rfl)) (X.2.2.2.2.1 (.native arraycopyName) (inX 24 rfl)) (X.2.2.2.2.1 (.static arraycopyName) (inX 25 rfl)) (X.2.2.2.2.1 (.initialized "java/lang/System") (inX 26 rfl)) X.2.2.2.2.2.2.1 hP hD hS 33 13 0 0 (ty := .int) rfl rfl rfl rfl rfl hcp.1 hcp.2.1 hcp.2.2.1 hcp.2.2.2.1 hcp.2.2.2.2 (fun _ _ => rfl) (Nat.le_of_ble_eq_true rfl) (Nat.le_of_ble_eq_true rfl) (dk DX11_copyRow 9 rfl) (fun H locs hP hD hS => ?_)
  obtain ⟨S2, eS2⟩ : ∃ z : XS, z = xF S 13 (va_cpy (S.2.1 33) (S.2.1 13) (0 : Int32).toNatClampNeg (0 : Int32).toNatClampNeg v1.toNatClampNeg) := ⟨_, rfl⟩
  have hP : va_P (dC, dI) vwCl (wX q cI cT S2) H := by rw [eS2]; exact hP
  have hD : va_D A (wX q cI cT S2) := by rw [eS2]; exact hD
  have h := h S2 eS2
  exact W.vret hx hb hr (fun t ht hW => ⟨⟨_, rfl, h, by rw [ht]; exact hP, va_K.moved hW.alike X.2.2.2.2.2.2.1, hD⟩, hS.F ht⟩) hS.2.2 (dk DX11_copyRow 10 rfl)

def ww_X11_copyRow_34_14 : List Cond := .code yX11_copyRow cX11_copyRow 2 none :: (WdX ++ WsX)
theorem q_X11_copyRow_34_14 : yX11_copyRow.cls ≠ "java/lang/invoke/MethodHandle" ∧ yX11_copyRow.cls ≠ "java/lang/invoke/VarHandle" ∧ (parseMethodDescriptor yX11_copyRow.desc).map (fun d => d.parameters.length) = some 2 := by decide +kernel
def VC_X11_copyRow_34_14 (Post : XS → Prop) (S : XS) : Prop := ∀ v1 : Int32, v1 = (if (160 : Int32) < 160 then 160 else 160) → (¬ (0 : Int32) < 0 ∧ ¬ (0 : Int32) < 0 ∧ ¬ v1 < 0 ∧ (0 : Int32).toNatClampNeg + v1.toNatClampNeg ≤ 160 ∧ (0 : Int32).toNatClampNeg + v1.toNatClampNeg ≤ 160) ∧ ∀ S2 : XS, S2 = xF S 14 (va_cpy (S.2.1 34) (S.2.1 14) (0 : Int32).toNatClampNeg (0 : Int32).toNatClampNeg v1.toNatClampNeg) → Post S2
set_option maxHeartbeats 4000000 in
set_option maxRecDepth 100000 in
theorem m_X11_copyRow_34_14 {l : Launch} {dC : Nat → ClassId} {dI : Nat → Nat → Nat} {q : Nat → Nat} {cI cT : ClassId} {en : Nat → Nat} {sz : Nat} {Post : XS → Prop} (S : XS) (h : VC_X11_copyRow_34_14 Post S) : Met l yX11_copyRow ww_X11_copyRow_34_14 ({ frames := 1, cells := 0, slots := 0, locals := 40 } : Room) (va_Pc [.ref (q 34), .ref (q 14)] (preX dC dI q cI cT en S sz)) (va_Qv Post (atX dC dI q cI cT (va_A (wX q cI cT S) sz)) (va_A (wX q cI cT S) sz)) 0 0 (va_A (wX q cI cT S) sz) := by
  refine oX (cc := cX11_copyRow) (maxL := 2) (ret := none) (Qc := fun A => va_Qv Post (atX dC dI q cI cT A) A) (own := RX11) (by decide) rfl (fun w h => List.mem_cons_of_mem _ (List.mem_append_right _ h)) rfl (Nat.le_of_ble_eq_true rfl) (fun p e s m below meth c A ls X hr hlocks hP hD hS hl => ?_)
  have hx := X.1
  have hb := X.2.1
  have hl : lv_has ls 2 [(0, .ref (q 34)), (1, .ref (q 14))] := hl
  dsimp only [VC_X11_copyRow_34_14] at h
  refine lv_aload_n hx hb (dk DX11_copyRow 0 rfl) rfl (lv_at hl 0 rfl) ?_
  refine lv_iconst (v := 0) hx hb (dk DX11_copyRow 1 rfl) (by decide) ?_
  refine lv_aload_n hx hb (dk DX11_copyRow 2 rfl) rfl (lv_at hl 1 rfl) ?_
  refine lv_iconst (v := 0) hx hb (dk DX11_copyRow 3 rfl) (by decide) ?_
  refine lv_aload_n hx hb (dk DX11_copyRow 4 rfl) rfl (lv_at hl 0 rfl) ?_
  refine alX_34 X hP (dk DX11_copyRow 5 rfl) ?_
  refine lv_aload_n hx hb (dk DX11_copyRow 6 rfl) rfl (lv_at hl 1 rfl) ?_
  refine alX_14 X hP (dk DX11_copyRow 7 rfl) ?_
  refine va_mmin hx hb (X.2.2.1.trans hl.1.symm) X.2.2.2.1 (X.2.2.2.2.1 (.methodLink RX11 309 Lib.Math.min.name) (inX 19 rfl)) (X.2.2.2.2.1 (.static Lib.Math.min.name) (inX 20 rfl)) (X.2.2.2.2.1 (.initialized "java/lang/Math") (inX 21 rfl)) (X.2.2.2.2.1 (.code Lib.Math.min.name Lib.Math.min.code 2 (some .int)) (inX 22 rfl)) (Nat.le_of_ble_eq_true rfl) (Nat.le_of_ble_eq_true rfl) (Nat.zero_le _) (Nat.zero_le _) (dk DX11_copyRow 8 rfl) ?_
  refine lv_topi (fun v1 ev1 => ?_)
  have h := h v1 ev1
  obtain ⟨hcp, h⟩ := h
  refine va_copyi hx hb (X.2.2.1.trans hl.1.symm) X.2.2.2.1 (X.2.2.2.2.1 (.methodLink RX11 320 arraycopyName) (inX 23 rfl)) (X.2.2.2.2.1 (.native arraycopyName) (inX 24 rfl)) (X.2.2.2.2.1 (.static arraycopyName) (inX 25 rfl)) (X.2.2.2.2.1 (.initialized "java/lang/System") (inX 26 rfl)) X.2.2.2.2.2.2.1 hP hD hS 34 14 0 0 (ty := .int) rfl rfl rfl rfl rfl hcp.1 hcp.2.1 hcp.2.2.1 hcp.2.2.2.1 hcp.2.2.2.2 (fun _ _ => rfl) (Nat.le_of_ble_eq_true rfl) (Nat.le_of_ble_eq_true rfl) (dk DX11_copyRow 9 rfl) (fun H locs hP hD hS => ?_)
  obtain ⟨S2, eS2⟩ : ∃ z : XS, z = xF S 14 (va_cpy (S.2.1 34) (S.2.1 14) (0 : Int32).toNatClampNeg (0 : Int32).toNatClampNeg v1.toNatClampNeg) := ⟨_, rfl⟩
  have hP : va_P (dC, dI) vwCl (wX q cI cT S2) H := by rw [eS2]; exact hP
  have hD : va_D A (wX q cI cT S2) := by rw [eS2]; exact hD
  have h := h S2 eS2
  exact W.vret hx hb hr (fun t ht hW => ⟨⟨_, rfl, h, by rw [ht]; exact hP, va_K.moved hW.alike X.2.2.2.2.2.2.1, hD⟩, hS.F ht⟩) hS.2.2 (dk DX11_copyRow 10 rfl)

