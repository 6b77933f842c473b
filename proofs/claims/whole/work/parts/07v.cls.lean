-- X0_takeFrom_11_31 X11_copyRow_36_16 X6_takeFrom_15_35 X11_copyRow_38_18 X11_copyRow_39_19 X7_takeFrom_17_37 X5_takeFrom_1_21 X11_back_0
def ww_X0_takeFrom_11_31 : List Cond := .code yX0_takeFrom cX0_takeFrom 2 none :: (WdX ++ WsX)
theorem q_X0_takeFrom_11_31 : yX0_takeFrom.cls = RX0 ∧ yX0_takeFrom.cls ≠ "java/lang/invoke/MethodHandle" ∧ yX0_takeFrom.cls ≠ "java/lang/invoke/VarHandle" ∧ (parseMethodDescriptor yX0_takeFrom.desc).map (fun d => d.parameters.length) = some 1 := by decide +kernel
def VC_X0_takeFrom_11_31 (Post : XS → Prop) (S : XS) : Prop := ∀ v1 : Int32, v1 = (S.1 992) → ∀ S2 : XS, S2 = xI S 352 v1 → ∀ v3 : Int32, v3 = (S2.1 993) → ∀ S4 : XS, S4 = xI S2 353 v3 → ∀ v5 : Int32, v5 = (S4.1 996) → ∀ S6 : XS, S6 = xI S4 356 v5 → VC_X11_copyRow_32_12 (fun S7 => VC_X11_copyRow_33_13 (fun S8 => VC_X11_copyRow_34_14 (fun S9 => Post S9) S8) S7) S6
set_option maxHeartbeats 4000000 in
set_option maxRecDepth 100000 in
theorem m_X0_takeFrom_11_31 {l : Launch} {dC : Nat → ClassId} {dI : Nat → Nat → Nat} {q : Nat → Nat} {cI cT : ClassId} {en : Nat → Nat} {sz : Nat} {Post : XS → Prop} (S : XS) (h : VC_X0_takeFrom_11_31 Post S) : Met l yX0_takeFrom ww_X0_takeFrom_11_31 ({ frames := 2, cells := 0, slots := 0, locals := 61 } : Room) (va_Pc [.ref (q 11), .ref (q 31)] (preX dC dI q cI cT en S sz)) (va_Qv Post (atX dC dI q cI cT (va_A (wX q cI cT S) sz)) (va_A (wX q cI cT S) sz)) 0 0 (va_A (wX q cI cT S) sz) := by
  refine oX (cc := cX0_takeFrom) (maxL := 2) (ret := none) (Qc := fun A => va_Qv Post (atX dC dI q cI cT A) A) (own := RX0) (by decide) rfl (fun w h => List.mem_cons_of_mem _ (List.mem_append_right _ h)) rfl (Nat.le_of_ble_eq_true rfl) (fun p e s m below meth c A ls X hr hlocks hP hD hS hl => ?_)
  have hx := X.1
  have hb := X.2.1
  have hl : lv_has ls 2 [(0, .ref (q 11)), (1, .ref (q 31))] := hl
  have lk28 := X.2.2.2.2.1 (.fieldLink RX0 28 "BreathOnLoan$Bench" "hour" "I") (inX 12 rfl)
  have lk21 := X.2.2.2.2.1 (.fieldLink RX0 21 "BreathOnLoan$Bench" "pieces" "I") (inX 9 rfl)
  have lk25 := X.2.2.2.2.1 (.fieldLink RX0 25 "BreathOnLoan$Bench" "bubbles" "I") (inX 11 rfl)
  have lk9 := X.2.2.2.2.1 (.fieldLink RX0 9 "BreathOnLoan$Bench" "kindOf" "[I") (inX 5 rfl)
  have lk15 := X.2.2.2.2.1 (.fieldLink RX0 15 "BreathOnLoan$Bench" "sold" "[I") (inX 6 rfl)
  have lk18 := X.2.2.2.2.1 (.fieldLink RX0 18 "BreathOnLoan$Bench" "log" "[I") (inX 7 rfl)
  dsimp only [VC_X0_takeFrom_11_31] at h
  refine lv_aload_n hx hb (dk DX0_takeFrom 0 rfl) rfl (lv_at hl 0 rfl) ?_
  refine lv_aload_n hx hb (dk DX0_takeFrom 1 rfl) rfl (lv_at hl 1 rfl) ?_
  refine gX_31 X hP 0 (by decide) rfl lk28 (dk DX0_takeFrom 2 rfl) ?_
  refine lv_topi (fun v1 ev1 => ?_)
  have h := h v1 ev1
  refine pX_11_0 X hP hD hS lk28 (dk DX0_takeFrom 3 rfl) (fun S2 eS2 H locs hP hD hS => ?_)
  have h := h S2 eS2
  refine lv_aload_n hx hb (dk DX0_takeFrom 4 rfl) rfl (lv_at hl 0 rfl) ?_
  refine lv_aload_n hx hb (dk DX0_takeFrom 5 rfl) rfl (lv_at hl 1 rfl) ?_
  refine gX_31 X hP 1 (by decide) rfl lk21 (dk DX0_takeFrom 6 rfl) ?_
  refine lv_topi (fun v3 ev3 => ?_)
  have h := h v3 ev3
  refine pX_11_1 X hP hD hS lk21 (dk DX0_takeFrom 7 rfl) (fun S4 eS4 H locs hP hD hS => ?_)
  have h := h S4 eS4
  refine lv_aload_n hx hb (dk DX0_takeFrom 8 rfl) rfl (lv_at hl 0 rfl) ?_
  refine lv_aload_n hx hb (dk DX0_takeFrom 9 rfl) rfl (lv_at hl 1 rfl) ?_
  refine gX_31 X hP 4 (by decide) rfl lk25 (dk DX0_takeFrom 10 rfl) ?_
  refine lv_topi (fun v5 ev5 => ?_)
  have h := h v5 ev5
  refine pX_11_4 X hP hD hS lk25 (dk DX0_takeFrom 11 rfl) (fun S6 eS6 H locs hP hD hS => ?_)
  have h := h S6 eS6
  refine lv_aload_n hx hb (dk DX0_takeFrom 12 rfl) rfl (lv_at hl 1 rfl) ?_
  refine gX_31 X hP 2 (by decide) rfl lk9 (dk DX0_takeFrom 13 rfl) ?_
  refine lv_aload_n hx hb (dk DX0_takeFrom 14 rfl) rfl (lv_at hl 0 rfl) ?_
  refine gX_11 X hP 2 (by decide) rfl lk9 (dk DX0_takeFrom 15 rfl) ?_
  refine cXnv (As := [.ref (q 32), .ref (q 12)]) (rest := []) X (m_X11_copyRow_32_12 (l := l) (dC := dC) (dI := dI) (q := q) (cI := cI) (cT := cT) (en := en) (sz := _) S6 h) ⟨va_cnB (host := "BreathOnLoan") 2 X.2.2.2.2.1 (gxB (List.mem_of_getElem? (i := 18) rfl)) rfl rfl rfl (X.2.2.2.2.2.2.2.2.1.1 _ (List.mem_of_getElem? (i := 7) rfl)) (X.2.2.2.2.1 (.initialized RX11) (inX 16 rfl)) q_X11_copyRow_32_12 ⟨Nat.le_of_ble_eq_true rfl, Nat.le_of_ble_eq_true rfl⟩, X.2.2.2.2.1 (.static yX11_copyRow) (inX 28 rfl), trivial⟩ hP hD hS rfl hl.1 rfl (Nat.le_of_ble_eq_true rfl) (dk DX0_takeFrom 16 rfl) (fun S7 H locs h hP hD hS => ?_)
  refine lv_aload_n hx hb (dk DX0_takeFrom 17 rfl) rfl (lv_at hl 1 rfl) ?_
  refine gX_31 X hP 3 (by decide) rfl lk15 (dk DX0_takeFrom 18 rfl) ?_
  refine lv_aload_n hx hb (dk DX0_takeFrom 19 rfl) rfl (lv_at hl 0 rfl) ?_
  refine gX_11 X hP 3 (by decide) rfl lk15 (dk DX0_takeFrom 20 rfl) ?_
  refine cXnv (As := [.ref (q 33), .ref (q 13)]) (rest := []) X (m_X11_copyRow_33_13 (l := l) (dC := dC) (dI := dI) (q := q) (cI := cI) (cT := cT) (en := en) (sz := _) S7 h) ⟨va_cnB (host := "BreathOnLoan") 2 X.2.2.2.2.1 (gxB (List.mem_of_getElem? (i := 18) rfl)) rfl rfl rfl (X.2.2.2.2.2.2.2.2.1.1 _ (List.mem_of_getElem? (i := 7) rfl)) (X.2.2.2.2.1 (.initialized RX11) (inX 16 rfl)) q_X11_copyRow_33_13 ⟨Nat.le_of_ble_eq_true rfl, Nat.le_of_ble_eq_true rfl⟩, X.2.2.2.2.1 (.static yX11_copyRow) (inX 28 rfl), trivial⟩ hP hD hS rfl hl.1 rfl (Nat.le_of_ble_eq_true rfl) (dk DX0_takeFrom 21 rfl) (fun S8 H locs h hP hD hS => ?_)
  refine lv_aload_n hx hb (dk DX0_takeFrom 22 rfl) rfl (lv_at hl 1 rfl) ?_
  refine gX_31 X hP 5 (by decide) rfl lk18 (dk DX0_takeFrom 23 rfl) ?_
  refine lv_aload_n hx hb (dk DX0_takeFrom 24 rfl) rfl (lv_at hl 0 rfl) ?_
  refine gX_11 X hP 5 (by decide) rfl lk18 (dk DX0_takeFrom 25 rfl) ?_
  refine cXnv (As := [.ref (q 34), .ref (q 14)]) (rest := []) X (m_X11_copyRow_34_14 (l := l) (dC := dC) (dI := dI) (q := q) (cI := cI) (cT := cT) (en := en) (sz := _) S8 h) ⟨va_cnB (host := "BreathOnLoan") 2 X.2.2.2.2.1 (gxB (List.mem_of_getElem? (i := 18) rfl)) rfl rfl rfl (X.2.2.2.2.2.2.2.2.1.1 _ (List.mem_of_getElem? (i := 7) rfl)) (X.2.2.2.2.1 (.initialized RX11) (inX 16 rfl)) q_X11_copyRow_34_14 ⟨Nat.le_of_ble_eq_true rfl, Nat.le_of_ble_eq_true rfl⟩, X.2.2.2.2.1 (.static yX11_copyRow) (inX 28 rfl), trivial⟩ hP hD hS rfl hl.1 rfl (Nat.le_of_ble_eq_true rfl) (dk DX0_takeFrom 26 rfl) (fun S9 H locs h hP hD hS => ?_)
  exact W.vret hx hb hr (fun t ht hW => ⟨⟨_, rfl, h, by rw [ht]; exact hP, va_K.moved hW.alike X.2.2.2.2.2.2.1, hD⟩, hS.F ht⟩) hS.2.2 (dk DX0_takeFrom 27 rfl)

def ww_X11_copyRow_36_16 : List Cond := .code yX11_copyRow cX11_copyRow 2 none :: (WdX ++ WsX)
theorem q_X11_copyRow_36_16 : yX11_copyRow.cls ≠ "java/lang/invoke/MethodHandle" ∧ yX11_copyRow.cls ≠ "java/lang/invoke/VarHandle" ∧ (parseMethodDescriptor yX11_copyRow.desc).map (fun d => d.parameters.length) = some 2 := by decide +kernel
def VC_X11_copyRow_36_16 (Post : XS → Prop) (S : XS) : Prop := ∀ v1 : Int32, v1 = (if (240 : Int32) < 240 then 240 else 240) → (¬ (0 : Int32) < 0 ∧ ¬ (0 : Int32) < 0 ∧ ¬ v1 < 0 ∧ (0 : Int32).toNatClampNeg + v1.toNatClampNeg ≤ 240 ∧ (0 : Int32).toNatClampNeg + v1.toNatClampNeg ≤ 240) ∧ ∀ S2 : XS, S2 = xF S 16 (va_cpy (S.2.1 36) (S.2.1 16) (0 : Int32).toNatClampNeg (0 : Int32).toNatClampNeg v1.toNatClampNeg) → Post S2
set_option maxHeartbeats 4000000 in
set_option maxRecDepth 100000 in
theorem m_X11_copyRow_36_16 {l : Launch} {dC : Nat → ClassId} {dI : Nat → Nat → Nat} {q : Nat → Nat} {cI cT : ClassId} {en : Nat → Nat} {sz : Nat} {Post : XS → Prop} (S : XS) (h : VC_X11_copyRow_36_16 Post S) : Met l yX11_copyRow ww_X11_copyRow_36_16 ({ frames := 1, cells := 0, slots := 0, locals := 40 } : Room) (va_Pc [.ref (q 36), .ref (q 16)] (preX dC dI q cI cT en S sz)) (va_Qv Post (atX dC dI q cI cT (va_A (wX q cI cT S) sz)) (va_A (wX q cI cT S) sz)) 0 0 (va_A (wX q cI cT S) sz) := by
  refine oX (cc := cX11_copyRow) (maxL := 2) (ret := none) (Qc := fun A => va_Qv Post (atX dC dI q cI cT A) A) (own := RX11) (by decide) rfl (fun w h => List.mem_cons_of_mem _ (List.mem_append_right _ h)) rfl (Nat.le_of_ble_eq_true rfl) (fun p e s m below meth c A ls X hr hlocks hP hD hS hl => ?_)
  have hx := X.1
  have hb := X.2.1
  have hl : lv_has ls 2 [(0, .ref (q 36)), (1, .ref (q 16))] := hl
  dsimp only [VC_X11_copyRow_36_16] at h
  refine lv_aload_n hx hb (dk DX11_copyRow 0 rfl) rfl (lv_at hl 0 rfl) ?_
  refine lv_iconst (v := 0) hx hb (dk DX11_copyRow 1 rfl) (by decide) ?_
  refine lv_aload_n hx hb (dk DX11_copyRow 2 rfl) rfl (lv_at hl 1 rfl) ?_
  refine lv_iconst (v := 0) hx hb (dk DX11_copyRow 3 rfl) (by decide) ?_
  refine lv_aload_n hx hb (dk DX11_copyRow 4 rfl) rfl (lv_at hl 0 rfl) ?_
  refine alX_36 X hP (dk DX11_copyRow 5 rfl) ?_
  refine lv_aload_n hx hb (dk DX11_copyRow 6 rfl) rfl (lv_at hl 1 rfl) ?_
  refine alX_16 X hP (dk DX11_copyRow 7 rfl) ?_
  refine va_mmin hx hb (X.2.2.1.trans hl.1.symm) X.2.2.2.1 (X.2.2.2.2.1 (.methodLink RX11 309 Lib.Math.min.name) (inX 19 rfl)) (X.2.2.2.2.1 (.static Lib.Math.min.name) (inX 20 rfl)) (X.2.2.2.2.1 (.initialized "java/lang/Math") (inX 21 rfl)) (X.2.2.2.2.1 (.code Lib.Math.min.name Lib.Math.min.code 2 (some .int)) (inX 22 rfl)) (Nat.le_of_ble_eq_true rfl) (Nat.le_of_ble_eq_true rfl) (Nat.zero_le _) (Nat.zero_le _) (dk DX11_copyRow 8 rfl) ?_
  refine lv_topi (fun v1 ev1 => ?_)
  have h := h v1 ev1
  obtain ⟨hcp, h⟩ := h
  refine va_copyi hx hb (X.2.2.1.trans hl.1.symm) X.2.2.2.1 (X.2.2.2.2.1 (.methodLink RX11 320 arraycopyName) (inX 23 rfl)) (X.2.2.2.2.1 (.native arraycopyName) (inX 24 rfl)) (X.2.2.2.2.1 (.static arraycopyName) (inX 25 rfl)) (X.2.2.2.2.1 (.initialized "java/lang/System") (inX 26 rfl)) X.2.2.2.2.2.2.1 hP hD hS 36 16 0 0 (ty := .int) rfl rfl rfl rfl rfl hcp.1 hcp.2.1 hcp.2.2.1 hcp.2.2.2.1 hcp.2.2.2.2 (fun _ _ => rfl) (Nat.le_of_ble_eq_true rfl) (Nat.le_of_ble_eq_true rfl) (dk DX11_copyRow 9 rfl) (fun H locs hP hD hS => ?_)
  obtain ⟨S2, eS2⟩ : ∃ z : XS, z = xF S 16 (va_cpy (S.2.1 36) (S.2.1 16) (0 : Int32).toNatClampNeg (0 : Int32).toNatClampNeg v1.toNatClampNeg) := ⟨_, rfl⟩
  have hP : va_P (dC, dI) vwCl (wX q cI cT S2) H := by rw [eS2]; exact hP
  have hD : va_D A (wX q cI cT S2) := by rw [eS2]; exact hD
  have h := h S2 eS2
  exact W.vret hx hb hr (fun t ht hW => ⟨⟨_, rfl, h, by rw [ht]; exact hP, va_K.moved hW.alike X.2.2.2.2.2.2.1, hD⟩, hS.F ht⟩) hS.2.2 (dk DX11_copyRow 10 rfl)

def ww_X6_takeFrom_15_35 : List Cond := .code yX6_takeFrom cX6_takeFrom 2 none :: (WdX ++ WsX)
theorem q_X6_takeFrom_15_35 : yX6_takeFrom.cls = RX6 ∧ yX6_takeFrom.cls ≠ "java/lang/invoke/MethodHandle" ∧ yX6_takeFrom.cls ≠ "java/lang/invoke/VarHandle" ∧ (parseMethodDescriptor yX6_takeFrom.desc).map (fun d => d.parameters.length) = some 1 := by decide +kernel
def VC_X6_takeFrom_15_35 (Post : XS → Prop) (S : XS) : Prop := ∀ v1 : Int32, v1 = (S.1 1120) → ∀ S2 : XS, S2 = xI S 480 v1 → ∀ v3 : Int32, v3 = (S2.1 1121) → ∀ S4 : XS, S4 = xI S2 481 v3 → VC_X11_copyRow_36_16 (fun S5 => Post S5) S4
set_option maxHeartbeats 4000000 in
set_option maxRecDepth 100000 in
theorem m_X6_takeFrom_15_35 {l : Launch} {dC : Nat → ClassId} {dI : Nat → Nat → Nat} {q : Nat → Nat} {cI cT : ClassId} {en : Nat → Nat} {sz : Nat} {Post : XS → Prop} (S : XS) (h : VC_X6_takeFrom_15_35 Post S) : Met l yX6_takeFrom ww_X6_takeFrom_15_35 ({ frames := 2, cells := 0, slots := 0, locals := 61 } : Room) (va_Pc [.ref (q 15), .ref (q 35)] (preX dC dI q cI cT en S sz)) (va_Qv Post (atX dC dI q cI cT (va_A (wX q cI cT S) sz)) (va_A (wX q cI cT S) sz)) 0 0 (va_A (wX q cI cT S) sz) := by
  refine oX (cc := cX6_takeFrom) (maxL := 2) (ret := none) (Qc := fun A => va_Qv Post (atX dC dI q cI cT A) A) (own := RX6) (by decide) rfl (fun w h => List.mem_cons_of_mem _ (List.mem_append_right _ h)) rfl (Nat.le_of_ble_eq_true rfl) (fun p e s m below meth c A ls X hr hlocks hP hD hS hl => ?_)
  have hx := X.1
  have hb := X.2.1
  have hl : lv_has ls 2 [(0, .ref (q 15)), (1, .ref (q 35))] := hl
  have lk19 := X.2.2.2.2.1 (.fieldLink RX6 19 "BreathOnLoan$Steps" "first" "I") (inX 523 rfl)
  have lk15 := X.2.2.2.2.1 (.fieldLink RX6 15 "BreathOnLoan$Steps" "count" "I") (inX 524 rfl)
  have lk11 := X.2.2.2.2.1 (.fieldLink RX6 11 "BreathOnLoan$Steps" "rows" "[I") (inX 480 rfl)
  dsimp only [VC_X6_takeFrom_15_35] at h
  refine lv_aload_n hx hb (dk DX6_takeFrom 0 rfl) rfl (lv_at hl 0 rfl) ?_
  refine lv_aload_n hx hb (dk DX6_takeFrom 1 rfl) rfl (lv_at hl 1 rfl) ?_
  refine gX_35 X hP 0 (by decide) rfl lk19 (dk DX6_takeFrom 2 rfl) ?_
  refine lv_topi (fun v1 ev1 => ?_)
  have h := h v1 ev1
  refine pX_15_0 X hP hD hS lk19 (dk DX6_takeFrom 3 rfl) (fun S2 eS2 H locs hP hD hS => ?_)
  have h := h S2 eS2
  refine lv_aload_n hx hb (dk DX6_takeFrom 4 rfl) rfl (lv_at hl 0 rfl) ?_
  refine lv_aload_n hx hb (dk DX6_takeFrom 5 rfl) rfl (lv_at hl 1 rfl) ?_
  refine gX_35 X hP 1 (by decide) rfl lk15 (dk DX6_takeFrom 6 rfl) ?_
  refine lv_topi (fun v3 ev3 => ?_)
  have h := h v3 ev3
  refine pX_15_1 X hP hD hS lk15 (dk DX6_takeFrom 7 rfl) (fun S4 eS4 H locs hP hD hS => ?_)
  have h := h S4 eS4
  refine lv_aload_n hx hb (dk DX6_takeFrom 8 rfl) rfl (lv_at hl 1 rfl) ?_
  refine gX_35 X hP 2 (by decide) rfl lk11 (dk DX6_takeFrom 9 rfl) ?_
  refine lv_aload_n hx hb (dk DX6_takeFrom 10 rfl) rfl (lv_at hl 0 rfl) ?_
  refine gX_15 X hP 2 (by decide) rfl lk11 (dk DX6_takeFrom 11 rfl) ?_
  refine cXnv (As := [.ref (q 36), .ref (q 16)]) (rest := []) X (m_X11_copyRow_36_16 (l := l) (dC := dC) (dI := dI) (q := q) (cI := cI) (cT := cT) (en := en) (sz := _) S4 h) ⟨va_cnB (host := "BreathOnLoan") 2 X.2.2.2.2.1 (gxB (List.mem_of_getElem? (i := 18) rfl)) rfl rfl rfl (X.2.2.2.2.2.2.2.2.1.1 _ (List.mem_of_getElem? (i := 8) rfl)) (X.2.2.2.2.1 (.initialized RX11) (inX 16 rfl)) q_X11_copyRow_36_16 ⟨Nat.le_of_ble_eq_true rfl, Nat.le_of_ble_eq_true rfl⟩, X.2.2.2.2.1 (.static yX11_copyRow) (inX 28 rfl), trivial⟩ hP hD hS rfl hl.1 rfl (Nat.le_of_ble_eq_true rfl) (dk DX6_takeFrom 12 rfl) (fun S5 H locs h hP hD hS => ?_)
  exact W.vret hx hb hr (fun t ht hW => ⟨⟨_, rfl, h, by rw [ht]; exact hP, va_K.moved hW.alike X.2.2.2.2.2.2.1, hD⟩, hS.F ht⟩) hS.2.2 (dk DX6_takeFrom 13 rfl)

def ww_X11_copyRow_38_18 : List Cond := .code yX11_copyRow cX11_copyRow 2 none :: (WdX ++ WsX)
theorem q_X11_copyRow_38_18 : yX11_copyRow.cls ≠ "java/lang/invoke/MethodHandle" ∧ yX11_copyRow.cls ≠ "java/lang/invoke/VarHandle" ∧ (parseMethodDescriptor yX11_copyRow.desc).map (fun d => d.parameters.length) = some 2 := by decide +kernel
def VC_X11_copyRow_38_18 (Post : XS → Prop) (S : XS) : Prop := ∀ v1 : Int32, v1 = (if (8 : Int32) < 8 then 8 else 8) → (¬ (0 : Int32) < 0 ∧ ¬ (0 : Int32) < 0 ∧ ¬ v1 < 0 ∧ (0 : Int32).toNatClampNeg + v1.toNatClampNeg ≤ 8 ∧ (0 : Int32).toNatClampNeg + v1.toNatClampNeg ≤ 8) ∧ ∀ S2 : XS, S2 = xF S 18 (va_cpy (S.2.1 38) (S.2.1 18) (0 : Int32).toNatClampNeg (0 : Int32).toNatClampNeg v1.toNatClampNeg) → Post S2
set_option maxHeartbeats 4000000 in
set_option maxRecDepth 100000 in
theorem m_X11_copyRow_38_18 {l : Launch} {dC : Nat → ClassId} {dI : Nat → Nat → Nat} {q : Nat → Nat} {cI cT : ClassId} {en : Nat → Nat} {sz : Nat} {Post : XS → Prop} (S : XS) (h : VC_X11_copyRow_38_18 Post S) : Met l yX11_copyRow ww_X11_copyRow_38_18 ({ frames := 1, cells := 0, slots := 0, locals := 40 } : Room) (va_Pc [.ref (q 38), .ref (q 18)] (preX dC dI q cI cT en S sz)) (va_Qv Post (atX dC dI q cI cT (va_A (wX q cI cT S) sz)) (va_A (wX q cI cT S) sz)) 0 0 (va_A (wX q cI cT S) sz) := by
  refine oX (cc := cX11_copyRow) (maxL := 2) (ret := none) (Qc := fun A => va_Qv Post (atX dC dI q cI cT A) A) (own := RX11) (by decide) rfl (fun w h => List.mem_cons_of_mem _ (List.mem_append_right _ h)) rfl (Nat.le_of_ble_eq_true rfl) (fun p e s m below meth c A ls X hr hlocks hP hD hS hl => ?_)
  have hx := X.1
  have hb := X.2.1
  have hl : lv_has ls 2 [(0, .ref (q 38)), (1, .ref (q 18))] := hl
  dsimp only [VC_X11_copyRow_38_18] at h
  refine lv_aload_n hx hb (dk DX11_copyRow 0 rfl) rfl (lv_at hl 0 rfl) ?_
  refine lv_iconst (v := 0) hx hb (dk DX11_copyRow 1 rfl) (by decide) ?_
  refine lv_aload_n hx hb (dk DX11_copyRow 2 rfl) rfl (lv_at hl 1 rfl) ?_
  refine lv_iconst (v := 0) hx hb (dk DX11_copyRow 3 rfl) (by decide) ?_
  refine lv_aload_n hx hb (dk DX11_copyRow 4 rfl) rfl (lv_at hl 0 rfl) ?_
  refine alX_38 X hP (dk DX11_copyRow 5 rfl) ?_
  refine lv_aload_n hx hb (dk DX11_copyRow 6 rfl) rfl (lv_at hl 1 rfl) ?_
  refine alX_18 X hP (dk DX11_copyRow 7 rfl) ?_
  refine va_mmin hx hb (X.2.2.1.trans hl.1.symm) X.2.2.2.1 (X.2.2.2.2.1 (.methodLink RX11 309 Lib.Math.min.name) (inX 19 rfl)) (X.2.2.2.2.1 (.static Lib.Math.min.name) (inX 20 rfl)) (X.2.2.2.2.1 (.initialized "java/lang/Math") (inX 21 rfl)) (X.2.2.2.2.1 (.code Lib.Math.min.name Lib.Math.min.code 2 (some .int)) (inX 22 rfl)) (Nat.le_of_ble_eq_true rfl) (Nat.le_of_ble_eq_true rfl) (Nat.zero_le _) (Nat.zero_le _) (dk DX11_copyRow 8 rfl) ?_
  refine lv_topi (fun v1 ev1 => ?_)
  have h := h v1 ev1
  obtain ⟨hcp, h⟩ := h
  refine va_copyi hx hb (X.2.2.1.trans hl.1.symm) X.2.2.2.1 (X.2.2.2.2.1 (.methodLink RX11 320 arraycopyName) (inX 23 rfl)) (X.2.2.2.2.1 (.native arraycopyName) (inX 24 rfl)) (X.2.2.2.2.1 (.static arraycopyName) (inX 25 rfl)) (X.2.2.2.2.1 (.initialized "java/lang/System") (inX 26 rfl)) X.2.2.2.2.2.2.1 hP hD hS 38 18 0 0 (ty := .int) rfl rfl rfl rfl rfl hcp.1 hcp.2.1 hcp.2.2.1 hcp.2.2.2.1 hcp.2.2.2.2 (fun _ _ => rfl) (Nat.le_of_ble_eq_true rfl) (Nat.le_of_ble_eq_true rfl) (dk DX11_copyRow 9 rfl) (fun H locs hP hD hS => ?_)
  obtain ⟨S2, eS2⟩ : ∃ z : XS, z = xF S 18 (va_cpy (S.2.1 38) (S.2.1 18) (0 : Int32).toNatClampNeg (0 : Int32).toNatClampNeg v1.toNatClampNeg) := ⟨_, rfl⟩
  have hP : va_P (dC, dI) vwCl (wX q cI cT S2) H := by rw [eS2]; exact hP
  have hD : va_D A (wX q cI cT S2) := by rw [eS2]; exact hD
  have h := h S2 eS2
  exact W.vret hx hb hr (fun t ht hW => ⟨⟨_, rfl, h, by rw [ht]; exact hP, va_K.moved hW.alike X.2.2.2.2.2.2.1, hD⟩, hS.F ht⟩) hS.2.2 (dk DX11_copyRow 10 rfl)

def ww_X11_copyRow_39_19 : List Cond := .code yX11_copyRow cX11_copyRow 2 none :: (WdX ++ WsX)
theorem q_X11_copyRow_39_19 : yX11_copyRow.cls ≠ "java/lang/invoke/MethodHandle" ∧ yX11_copyRow.cls ≠ "java/lang/invoke/VarHandle" ∧ (parseMethodDescriptor yX11_copyRow.desc).map (fun d => d.parameters.length) = some 2 := by decide +kernel
def VC_X11_copyRow_39_19 (Post : XS → Prop) (S : XS) : Prop := ∀ v1 : Int32, v1 = (if (80 : Int32) < 80 then 80 else 80) → (¬ (0 : Int32) < 0 ∧ ¬ (0 : Int32) < 0 ∧ ¬ v1 < 0 ∧ (0 : Int32).toNatClampNeg + v1.toNatClampNeg ≤ 80 ∧ (0 : Int32).toNatClampNeg + v1.toNatClampNeg ≤ 80) ∧ ∀ S2 : XS, S2 = xF S 19 (va_cpy (S.2.1 39) (S.2.1 19) (0 : Int32).toNatClampNeg (0 : Int32).toNatClampNeg v1.toNatClampNeg) → Post S2
set_option maxHeartbeats 4000000 in
set_option maxRecDepth 100000 in
theorem m_X11_copyRow_39_19 {l : Launch} {dC : Nat → ClassId} {dI : Nat → Nat → Nat} {q : Nat → Nat} {cI cT : ClassId} {en : Nat → Nat} {sz : Nat} {Post : XS → Prop} (S : XS) (h : VC_X11_copyRow_39_19 Post S) : Met l yX11_copyRow ww_X11_copyRow_39_19 ({ frames := 1, cells := 0, slots := 0, locals := 40 } : Room) (va_Pc [.ref (q 39), .ref (q 19)] (preX dC dI q cI cT en S sz)) (va_Qv Post (atX dC dI q cI cT (va_A (wX q cI cT S) sz)) (va_A (wX q cI cT S) sz)) 0 0 (va_A (wX q cI cT S) sz) := by
  refine oX (cc := cX11_copyRow) (maxL := 2) (ret := none) (Qc := fun A => va_Qv Post (atX dC dI q cI cT A) A) (own := RX11) (by decide) rfl (fun w h => List.mem_cons_of_mem _ (List.mem_append_right _ h)) rfl (Nat.le_of_ble_eq_true rfl) (fun p e s m below meth c A ls X hr hlocks hP hD hS hl => ?_)
  have hx := X.1
  have hb := X.2.1
  have hl : lv_has ls 2 [(0, .ref (q 39)), (1, .ref (q 19))] := hl
  dsimp only [VC_X11_copyRow_39_19] at h
  refine lv_aload_n hx hb (dk DX11_copyRow 0 rfl) rfl (lv_at hl 0 rfl) ?_
  refine lv_iconst (v := 0) hx hb (dk DX11_copyRow 1 rfl) (by decide) ?_
  refine lv_aload_n hx hb (dk DX11_copyRow 2 rfl) rfl (lv_at hl 1 rfl) ?_
  refine lv_iconst (v := 0) hx hb (dk DX11_copyRow 3 rfl) (by decide) ?_
  refine lv_aload_n hx hb (dk DX11_copyRow 4 rfl) rfl (lv_at hl 0 rfl) ?_
  refine alX_39 X hP (dk DX11_copyRow 5 rfl) ?_
  refine lv_aload_n hx hb (dk DX11_copyRow 6 rfl) rfl (lv_at hl 1 rfl) ?_
  refine alX_19 X hP (dk DX11_copyRow 7 rfl) ?_
  refine va_mmin hx hb (X.2.2.1.trans hl.1.symm) X.2.2.2.1 (X.2.2.2.2.1 (.methodLink RX11 309 Lib.Math.min.name) (inX 19 rfl)) (X.2.2.2.2.1 (.static Lib.Math.min.name) (inX 20 rfl)) (X.2.2.2.2.1 (.initialized "java/lang/Math") (inX 21 rfl)) (X.2.2.2.2.1 (.code Lib.Math.min.name Lib.Math.min.code 2 (some .int)) (inX 22 rfl)) (Nat.le_of_ble_eq_true rfl) (Nat.le_of_ble_eq_true rfl) (Nat.zero_le _) (Nat.zero_le _) (dk DX11_copyRow 8 rfl) ?_
  refine lv_topi (fun v1 ev1 => ?_)
  have h := h v1 ev1
  obtain ⟨hcp, h⟩ := h
  refine va_copyi hx hb (X.2.2.1.trans hl.1.symm) X.2.2.2.1 (X.2.2.2.2.1 (.methodLink RX11 320 arraycopyName) (inX 23 rfl)) (X.2.2.2.2.1 (.native arraycopyName) (inX 24 rfl)) (X.2.2.2.2.1 (.static arraycopyName) (inX 25 rfl)) (X.2.2.2.2.1 (.initialized "java/lang/System") (inX 26 rfl)) X.2.2.2.2.2.2.1 hP hD hS 39 19 0 0 (ty := .int) rfl rfl rfl rfl rfl hcp.1 hcp.2.1 hcp.2.2.1 hcp.2.2.2.1 hcp.2.2.2.2 (fun _ _ => rfl) (Nat.le_of_ble_eq_true rfl) (Nat.le_of_ble_eq_true rfl) (dk DX11_copyRow 9 rfl) (fun H locs hP hD hS => ?_)
  obtain ⟨S2, eS2⟩ : ∃ z : XS, z = xF S 19 (va_cpy (S.2.1 39) (S.2.1 19) (0 : Int32).toNatClampNeg (0 : Int32).toNatClampNeg v1.toNatClampNeg) := ⟨_, rfl⟩
  have hP : va_P (dC, dI) vwCl (wX q cI cT S2) H := by rw [eS2]; exact hP
  have hD : va_D A (wX q cI cT S2) := by rw [eS2]; exact hD
  have h := h S2 eS2
  exact W.vret hx hb hr (fun t ht hW => ⟨⟨_, rfl, h, by rw [ht]; exact hP, va_K.moved hW.alike X.2.2.2.2.2.2.1, hD⟩, hS.F ht⟩) hS.2.2 (dk DX11_copyRow 10 rfl)

def ww_X7_takeFrom_17_37 : List Cond := .code yX7_takeFrom cX7_takeFrom 2 none :: (WdX ++ WsX)
theorem q_X7_takeFrom_17_37 : yX7_takeFrom.cls = RX7 ∧ yX7_takeFrom.cls ≠ "java/lang/invoke/MethodHandle" ∧ yX7_takeFrom.cls ≠ "java/lang/invoke/VarHandle" ∧ (parseMethodDescriptor yX7_takeFrom.desc).map (fun d => d.parameters.length) = some 1 := by decide +kernel
def VC_X7_takeFrom_17_37 (Post : XS → Prop) (S : XS) : Prop := ∀ v1 : Int32, v1 = (S.1 1184) → ∀ S2 : XS, S2 = xI S 544 v1 → ∀ v3 : Int32, v3 = (S2.1 1186) → ∀ S4 : XS, S4 = xI S2 546 v3 → VC_X11_copyRow_38_18 (fun S5 => VC_X11_copyRow_39_19 (fun S6 => Post S6) S5) S4
set_option maxHeartbeats 4000000 in
set_option maxRecDepth 100000 in
theorem m_X7_takeFrom_17_37 {l : Launch} {dC : Nat → ClassId} {dI : Nat → Nat → Nat} {q : Nat → Nat} {cI cT : ClassId} {en : Nat → Nat} {sz : Nat} {Post : XS → Prop} (S : XS) (h : VC_X7_takeFrom_17_37 Post S) : Met l yX7_takeFrom ww_X7_takeFrom_17_37 ({ frames := 2, cells := 0, slots := 0, locals := 61 } : Room) (va_Pc [.ref (q 17), .ref (q 37)] (preX dC dI q cI cT en S sz)) (va_Qv Post (atX dC dI q cI cT (va_A (wX q cI cT S) sz)) (va_A (wX q cI cT S) sz)) 0 0 (va_A (wX q cI cT S) sz) := by
  refine oX (cc := cX7_takeFrom) (maxL := 2) (ret := none) (Qc := fun A => va_Qv Post (atX dC dI q cI cT A) A) (own := RX7) (by decide) rfl (fun w h => List.mem_cons_of_mem _ (List.mem_append_right _ h)) rfl (Nat.le_of_ble_eq_true rfl) (fun p e s m below meth c A ls X hr hlocks hP hD hS hl => ?_)
  have hx := X.1
  have hb := X.2.1
  have hl : lv_has ls 2 [(0, .ref (q 17)), (1, .ref (q 37))] := hl
  have lk18 := X.2.2.2.2.1 (.fieldLink RX7 18 "BreathOnLoan$Talk" "seenCount" "I") (inX 526 rfl)
  have lk32 := X.2.2.2.2.1 (.fieldLink RX7 32 "BreathOnLoan$Talk" "toldCount" "I") (inX 527 rfl)
  have lk9 := X.2.2.2.2.1 (.fieldLink RX7 9 "BreathOnLoan$Talk" "breathsSeen" "[I") (inX 483 rfl)
  have lk15 := X.2.2.2.2.1 (.fieldLink RX7 15 "BreathOnLoan$Talk" "told" "[I") (inX 484 rfl)
  dsimp only [VC_X7_takeFrom_17_37] at h
  refine lv_aload_n hx hb (dk DX7_takeFrom 0 rfl) rfl (lv_at hl 0 rfl) ?_
  refine lv_aload_n hx hb (dk DX7_takeFrom 1 rfl) rfl (lv_at hl 1 rfl) ?_
  refine gX_37 X hP 0 (by decide) rfl lk18 (dk DX7_takeFrom 2 rfl) ?_
  refine lv_topi (fun v1 ev1 => ?_)
  have h := h v1 ev1
  refine pX_17_0 X hP hD hS lk18 (dk DX7_takeFrom 3 rfl) (fun S2 eS2 H locs hP hD hS => ?_)
  have h := h S2 eS2
  refine lv_aload_n hx hb (dk DX7_takeFrom 4 rfl) rfl (lv_at hl 0 rfl) ?_
  refine lv_aload_n hx hb (dk DX7_takeFrom 5 rfl) rfl (lv_at hl 1 rfl) ?_
  refine gX_37 X hP 2 (by decide) rfl lk32 (dk DX7_takeFrom 6 rfl) ?_
  refine lv_topi (fun v3 ev3 => ?_)
  have h := h v3 ev3
  refine pX_17_2 X hP hD hS lk32 (dk DX7_takeFrom 7 rfl) (fun S4 eS4 H locs hP hD hS => ?_)
  have h := h S4 eS4
  refine lv_aload_n hx hb (dk DX7_takeFrom 8 rfl) rfl (lv_at hl 1 rfl) ?_
  refine gX_37 X hP 1 (by decide) rfl lk9 (dk DX7_takeFrom 9 rfl) ?_
  refine lv_aload_n hx hb (dk DX7_takeFrom 10 rfl) rfl (lv_at hl 0 rfl) ?_
  refine gX_17 X hP 1 (by decide) rfl lk9 (dk DX7_takeFrom 11 rfl) ?_
  refine cXnv (As := [.ref (q 38), .ref (q 18)]) (rest := []) X (m_X11_copyRow_38_18 (l := l) (dC := dC) (dI := dI) (q := q) (cI := cI) (cT := cT) (en := en) (sz := _) S4 h) ⟨va_cnB (host := "BreathOnLoan") 2 X.2.2.2.2.1 (gxB (List.mem_of_getElem? (i := 18) rfl)) rfl rfl rfl (X.2.2.2.2.2.2.2.2.1.1 _ (List.mem_of_getElem? (i := 9) rfl)) (X.2.2.2.2.1 (.initialized RX11) (inX 16 rfl)) q_X11_copyRow_38_18 ⟨Nat.le_of_ble_eq_true rfl, Nat.le_of_ble_eq_true rfl⟩, X.2.2.2.2.1 (.static yX11_copyRow) (inX 28 rfl), trivial⟩ hP hD hS rfl hl.1 rfl (Nat.le_of_ble_eq_true rfl) (dk DX7_takeFrom 12 rfl) (fun S5 H locs h hP hD hS => ?_)
  refine lv_aload_n hx hb (dk DX7_takeFrom 13 rfl) rfl (lv_at hl 1 rfl) ?_
  refine gX_37 X hP 3 (by decide) rfl lk15 (dk DX7_takeFrom 14 rfl) ?_
  refine lv_aload_n hx hb (dk DX7_takeFrom 15 rfl) rfl (lv_at hl 0 rfl) ?_
  refine gX_17 X hP 3 (by decide) rfl lk15 (dk DX7_takeFrom 16 rfl) ?_
  refine cXnv (As := [.ref (q 39), .ref (q 19)]) (rest := []) X (m_X11_copyRow_39_19 (l := l) (dC := dC) (dI := dI) (q := q) (cI := cI) (cT := cT) (en := en) (sz := _) S5 h) ⟨va_cnB (host := "BreathOnLoan") 2 X.2.2.2.2.1 (gxB (List.mem_of_getElem? (i := 18) rfl)) rfl rfl rfl (X.2.2.2.2.2.2.2.2.1.1 _ (List.mem_of_getElem? (i := 9) rfl)) (X.2.2.2.2.1 (.initialized RX11) (inX 16 rfl)) q_X11_copyRow_39_19 ⟨Nat.le_of_ble_eq_true rfl, Nat.le_of_ble_eq_true rfl⟩, X.2.2.2.2.1 (.static yX11_copyRow) (inX 28 rfl), trivial⟩ hP hD hS rfl hl.1 rfl (Nat.le_of_ble_eq_true rfl) (dk DX7_takeFrom 17 rfl) (fun S6 H locs h hP hD hS => ?_)
  exact W.vret hx hb hr (fun t ht hW => ⟨⟨_, rfl, h, by rw [ht]; exact hP, va_K.moved hW.alike X.2.2.2.2.2.2.1, hD⟩, hS.F ht⟩) hS.2.2 (dk DX7_takeFrom 18 rfl)

def ww_X5_takeFrom_1_21 : List Cond := .code yX5_takeFrom cX5_takeFrom 3 none :: (WdX ++ WsX)
theorem q_X5_takeFrom_1_21 : yX5_takeFrom.cls = RX5 ∧ yX5_takeFrom.cls ≠ "java/lang/invoke/MethodHandle" ∧ yX5_takeFrom.cls ≠ "java/lang/invoke/VarHandle" ∧ (parseMethodDescriptor yX5_takeFrom.desc).map (fun d => d.parameters.length) = some 1 := by decide +kernel
abbrev Hd_X5_takeFrom_1_21 : Type := (Int32)
def B_X5_takeFrom_1_21 (Post : XS → Prop) (K : Hd_X5_takeFrom_1_21 → XS → Prop) : Hd_X5_takeFrom_1_21 → XS → Prop
  | x2, S => ((4 ≤ x2 → ∀ v6 : Int32, v6 = (S.1 678) → ∀ S7 : XS, S7 = xI S 38 v6 → ∀ v8 : Int32, v8 = (S7.1 679) → ∀ S9 : XS, S9 = xI S7 39 v8 → Post S9) ∧ (¬ 4 ≤ x2 → vp_in x2 4 ∧ (∀ a : Nat, (S.2.2.1 40 x2.toNatClampNeg) = some a → ∃ t : TR, tx S a t) ∧ vp_in x2 4 ∧ ∀ S10 : XS, S10 = xG S 20 (va_up (S.2.2.1 20) x2.toNatClampNeg (S.2.2.1 40 x2.toNatClampNeg)) → ∀ v11 : Int32, v11 = x2 + 1 → K v11 S10))
def VC_X5_takeFrom_1_21 (Post : XS → Prop) (S : XS) : Prop := ∀ K : Hd_X5_takeFrom_1_21 → XS → Prop, (∀ h S, B_X5_takeFrom_1_21 Post K h S → K h S) → VC_X1_takeFrom_2_22 (fun S1 => VC_X10_takeFrom_7_27 (fun S2 => VC_X0_takeFrom_11_31 (fun S3 => VC_X6_takeFrom_15_35 (fun S4 => VC_X7_takeFrom_17_37 (fun S5 => K 0 S5) S4) S3) S2) S1) S
set_option maxHeartbeats 4000000 in
set_option maxRecDepth 100000 in
theorem h_X5_takeFrom_1_21_0 {p : Program} {l : Launch} {e : Env} {s : State} {m : MethodId} {below : List Frame} {meth : Method} {c : Code} {dC : Nat → ClassId} {dI : Nat → Nat → Nat} {q : Nat → Nat} {cI cT : ClassId} {en : Nat → Nat} {A : Nat → Prop} {args : Array Value} {Post : XS → Prop} {K : Hd_X5_takeFrom_1_21 → XS → Prop} (X : XX p s m args c cX5_takeFrom 3 ww_X5_takeFrom_1_21 RX5 dC dI cI cT en A) (hr : meth.sig.returnType = none) (hlocks : meth.locks = false) (hK0 : ∀ (x2 : Int32) (S : XS), K x2 S → ∀ (H : Heap) (locs : List Loc), va_P (dC, dI) vwCl (wX q cI cT S) H → va_D A (wX q cI cT S) → va_S A s.heap H locs → ∀ ls : Array Slot, lv_has ls 3 [(0, .ref (q 1)), (1, .ref (q 21)), (2, .int x2)] → W p l e (headSpec ww_X5_takeFrom_1_21 ({ frames := 3, cells := 0, slots := 0, locals := 82 } : Room)).room s m args below meth c H locs 0 0 (MQ below (va_Qv Post (atX dC dI q cI cT A) A) args s 0 0 A) (F0 m 57 ls [])) (x2 : Int32) (S : XS) (h : B_X5_takeFrom_1_21 Post K x2 S) : ∀ (H : Heap) (locs : List Loc), va_P (dC, dI) vwCl (wX q cI cT S) H → va_D A (wX q cI cT S) → va_S A s.heap H locs → ∀ ls : Array Slot, lv_has ls 3 [(0, .ref (q 1)), (1, .ref (q 21)), (2, .int x2)] → W p l e (headSpec ww_X5_takeFrom_1_21 ({ frames := 3, cells := 0, slots := 0, locals := 82 } : Room)).room s m args below meth c H locs 0 0 (MQ below (va_Qv Post (atX dC dI q cI cT A) A) args s 0 0 A) (F0 m 57 ls []) := by
  have hx := X.1
  have hb := X.2.1
  intro H locs hP hD hS ls hl
  have lk12 := X.2.2.2.2.1 (.fieldLink RX5 12 "BreathOnLoan$State" "crew" "LBreathOnLoan$Crew;") (inX 488 rfl)
  have lk21 := X.2.2.2.2.1 (.fieldLink RX5 21 "BreathOnLoan$State" "wares" "LBreathOnLoan$Wares;") (inX 491 rfl)
  have lk28 := X.2.2.2.2.1 (.fieldLink RX5 28 "BreathOnLoan$State" "bench" "LBreathOnLoan$Bench;") (inX 494 rfl)
  have lk35 := X.2.2.2.2.1 (.fieldLink RX5 35 "BreathOnLoan$State" "steps" "LBreathOnLoan$Steps;") (inX 498 rfl)
  have lk42 := X.2.2.2.2.1 (.fieldLink RX5 42 "BreathOnLoan$State" "talk" "LBreathOnLoan$Talk;") (inX 502 rfl)
  have lk56 := X.2.2.2.2.1 (.fieldLink RX5 56 "BreathOnLoan$State" "textCount" "I") (inX 58 rfl)
  have lk52 := X.2.2.2.2.1 (.fieldLink RX5 52 "BreathOnLoan$State" "ruling" "I") (inX 504 rfl)
  have lk48 := X.2.2.2.2.1 (.fieldLink RX5 48 "BreathOnLoan$State" "texts" "[LBreathOnLoan$Text;") (inX 59 rfl)
  dsimp only [B_X5_takeFrom_1_21] at h
  refine lv_iload_n hx hb (dk DX5_takeFrom 27 rfl) rfl (lv_at hl 2 rfl) ?_
  refine lv_iconst (v := 4) hx hb (dk DX5_takeFrom 28 rfl) (by decide) ?_
  refine lv_icmp_ge (tgt := 80) hx hb (dk DX5_takeFrom 29 rfl) (by decide) (fun hc => ?_) (fun hc => ?_)
  · have h := h.1 hc
    refine lv_aload_n hx hb (dk DX5_takeFrom 40 rfl) rfl (lv_at hl 0 rfl) ?_
    refine lv_aload_n hx hb (dk DX5_takeFrom 41 rfl) rfl (lv_at hl 1 rfl) ?_
    refine gX_21 X hP 6 (by decide) rfl lk56 (dk DX5_takeFrom 42 rfl) ?_
    refine lv_topi (fun v6 ev6 => ?_)
    have h := h v6 ev6
    refine pX_1_6 X hP hD hS lk56 (dk DX5_takeFrom 43 rfl) (fun S7 eS7 H locs hP hD hS => ?_)
    have h := h S7 eS7
    refine lv_aload_n hx hb (dk DX5_takeFrom 44 rfl) rfl (lv_at hl 0 rfl) ?_
    refine lv_aload_n hx hb (dk DX5_takeFrom 45 rfl) rfl (lv_at hl 1 rfl) ?_
    refine gX_21 X hP 7 (by decide) rfl lk52 (dk DX5_takeFrom 46 rfl) ?_
    refine lv_topi (fun v8 ev8 => ?_)
    have h := h v8 ev8
    refine pX_1_7 X hP hD hS lk52 (dk DX5_takeFrom 47 rfl) (fun S9 eS9 H locs hP hD hS => ?_)
    have h := h S9 eS9
    exact W.vret hx hb hr (fun t ht hW => ⟨⟨_, rfl, h, by rw [ht]; exact hP, va_K.moved hW.alike X.2.2.2.2.2.2.1, hD⟩, hS.F ht⟩) hS.2.2 (dk DX5_takeFrom 48 rfl)
  · have h := h.2 hc
    refine lv_aload_n hx hb (dk DX5_takeFrom 30 rfl) rfl (lv_at hl 0 rfl) ?_
    refine gX_1 X hP 5 (by decide) rfl lk48 (dk DX5_takeFrom 31 rfl) ?_
    refine lv_iload_n hx hb (dk DX5_takeFrom 32 rfl) rfl (lv_at hl 2 rfl) ?_
    refine lv_aload_n hx hb (dk DX5_takeFrom 33 rfl) rfl (lv_at hl 1 rfl) ?_
    refine gX_21 X hP 5 (by decide) rfl lk48 (dk DX5_takeFrom 34 rfl) ?_
    refine lv_iload_n hx hb (dk DX5_takeFrom 35 rfl) rfl (lv_at hl 2 rfl) ?_
    obtain ⟨hin, h⟩ := h
    refine laX_40 X hP hin (dk DX5_takeFrom 36 rfl) ?_
    obtain ⟨hra, h⟩ := h
    obtain ⟨hin, h⟩ := h
    refine saX_20 X hP hD hS (r := (S.2.2.1 40 x2.toNatClampNeg)) hra hin (dk DX5_takeFrom 37 rfl) (fun S10 eS10 H locs hP hD hS => ?_)
    have h := h S10 eS10
    obtain ⟨v11, ev11⟩ : ∃ y : Int32, y = x2 + 1 := ⟨_, rfl⟩
    have h := h v11 ev11
    refine lv_iinc (v := v11) (lv' := [(2, .int v11), (0, .ref (q 1)), (1, .ref (q 21))]) hx hb (dk DX5_takeFrom 38 rfl) hl (k := 2) rfl (by rw [ev11]; rfl) (by decide) rfl (fun ls hl => ?_)
    refine lv_goto (tgt := 57) hx hb (dk DX5_takeFrom 39 rfl) (by decide) ?_
    exact hK0 v11 S10 h _ _ hP hD hS ls (lv_sub hl [1, 2, 0] rfl)
set_option maxHeartbeats 4000000 in
set_option maxRecDepth 100000 in
theorem m_X5_takeFrom_1_21 {l : Launch} {dC : Nat → ClassId} {dI : Nat → Nat → Nat} {q : Nat → Nat} {cI cT : ClassId} {en : Nat → Nat} {sz : Nat} {Post : XS → Prop} (S : XS) (h : VC_X5_takeFrom_1_21 Post S) : Met l yX5_takeFrom ww_X5_takeFrom_1_21 ({ frames := 3, cells := 0, slots := 0, locals := 82 } : Room) (va_Pc [.ref (q 1), .ref (q 21)] (preX dC dI q cI cT en S sz)) (va_Qv Post (atX dC dI q cI cT (va_A (wX q cI cT S) sz)) (va_A (wX q cI cT S) sz)) 0 0 (va_A (wX q cI cT S) sz) := by
  refine oX (cc := cX5_takeFrom) (maxL := 3) (ret := none) (Qc := fun A => va_Qv Post (atX dC dI q cI cT A) A) (own := RX5) (by decide) rfl (fun w h => List.mem_cons_of_mem _ (List.mem_append_right _ h)) rfl (Nat.le_of_ble_eq_true rfl) (fun p e s m below meth c A ls X hr hlocks hP hD hS hl => ?_)
  have hx := X.1
  have hb := X.2.1
  have hl : lv_has ls 3 [(0, .ref (q 1)), (1, .ref (q 21))] := hl
  have lk12 := X.2.2.2.2.1 (.fieldLink RX5 12 "BreathOnLoan$State" "crew" "LBreathOnLoan$Crew;") (inX 488 rfl)
  have lk21 := X.2.2.2.2.1 (.fieldLink RX5 21 "BreathOnLoan$State" "wares" "LBreathOnLoan$Wares;") (inX 491 rfl)
  have lk28 := X.2.2.2.2.1 (.fieldLink RX5 28 "BreathOnLoan$State" "bench" "LBreathOnLoan$Bench;") (inX 494 rfl)
  have lk35 := X.2.2.2.2.1 (.fieldLink RX5 35 "BreathOnLoan$State" "steps" "LBreathOnLoan$Steps;") (inX 498 rfl)
  have lk42 := X.2.2.2.2.1 (.fieldLink RX5 42 "BreathOnLoan$State" "talk" "LBreathOnLoan$Talk;") (inX 502 rfl)
  have lk56 := X.2.2.2.2.1 (.fieldLink RX5 56 "BreathOnLoan$State" "textCount" "I") (inX 58 rfl)
  have lk52 := X.2.2.2.2.1 (.fieldLink RX5 52 "BreathOnLoan$State" "ruling" "I") (inX 504 rfl)
  have lk48 := X.2.2.2.2.1 (.fieldLink RX5 48 "BreathOnLoan$State" "texts" "[LBreathOnLoan$Text;") (inX 59 rfl)
  generalize hargs : ([.ref (q 1), .ref (q 21)] : List Value).toArray = args at X ⊢
  have h := h (fun hd S => match hd with | x2 => ∀ (H : Heap) (locs : List Loc), va_P (dC, dI) vwCl (wX q cI cT S) H → va_D A (wX q cI cT S) → va_S A s.heap H locs → ∀ ls : Array Slot, lv_has ls 3 [(0, .ref (q 1)), (1, .ref (q 21)), (2, .int x2)] → W p l e (headSpec ww_X5_takeFrom_1_21 ({ frames := 3, cells := 0, slots := 0, locals := 82 } : Room)).room s m args below meth c H locs 0 0 (MQ below (va_Qv Post (atX dC dI q cI cT A) A) args s 0 0 A) (F0 m 57 ls [])) ?_
  · skip
    refine lv_aload_n hx hb (dk DX5_takeFrom 0 rfl) rfl (lv_at hl 0 rfl) ?_
    refine gX_1 X hP 0 (by decide) rfl lk12 (dk DX5_takeFrom 1 rfl) ?_
    refine lv_aload_n hx hb (dk DX5_takeFrom 2 rfl) rfl (lv_at hl 1 rfl) ?_
    refine gX_21 X hP 0 (by decide) rfl lk12 (dk DX5_takeFrom 3 rfl) ?_
    refine cXv (As := [.ref (q 22)]) (rest := []) X (m_X1_takeFrom_2_22 (l := l) (dC := dC) (dI := dI) (q := q) (cI := cI) (cT := cT) (en := en) (sz := _) S h) (cwV 1 X.2.2.2.2.1 (gxV 528 529 530 42 52 rfl rfl rfl rfl rfl) rfl rfl rfl q_X1_takeFrom_2_22 ⟨Nat.le_of_ble_eq_true rfl, Nat.le_of_ble_eq_true rfl⟩) (rX_2 X hP) hP hD hS rfl hl.1 rfl (Nat.le_of_ble_eq_true rfl) (dk DX5_takeFrom 4 rfl) (fun S1 H locs h hP hD hS => ?_)
    refine lv_aload_n hx hb (dk DX5_takeFrom 5 rfl) rfl (lv_at hl 0 rfl) ?_
    refine gX_1 X hP 1 (by decide) rfl lk21 (dk DX5_takeFrom 6 rfl) ?_
    refine lv_aload_n hx hb (dk DX5_takeFrom 7 rfl) rfl (lv_at hl 1 rfl) ?_
    refine gX_21 X hP 1 (by decide) rfl lk21 (dk DX5_takeFrom 8 rfl) ?_
    refine cXv (As := [.ref (q 27)]) (rest := []) X (m_X10_takeFrom_7_27 (l := l) (dC := dC) (dI := dI) (q := q) (cI := cI) (cT := cT) (en := en) (sz := _) S1 h) (cwV 1 X.2.2.2.2.1 (gxV 531 532 533 150 521 rfl rfl rfl rfl rfl) rfl rfl rfl q_X10_takeFrom_7_27 ⟨Nat.le_of_ble_eq_true rfl, Nat.le_of_ble_eq_true rfl⟩) (rX_7 X hP) hP hD hS rfl hl.1 rfl (Nat.le_of_ble_eq_true rfl) (dk DX5_takeFrom 9 rfl) (fun S2 H locs h hP hD hS => ?_)
    refine lv_aload_n hx hb (dk DX5_takeFrom 10 rfl) rfl (lv_at hl 0 rfl) ?_
    refine gX_1 X hP 2 (by decide) rfl lk28 (dk DX5_takeFrom 11 rfl) ?_
    refine lv_aload_n hx hb (dk DX5_takeFrom 12 rfl) rfl (lv_at hl 1 rfl) ?_
    refine gX_21 X hP 2 (by decide) rfl lk28 (dk DX5_takeFrom 13 rfl) ?_
    refine cXv (As := [.ref (q 31)]) (rest := []) X (m_X0_takeFrom_11_31 (l := l) (dC := dC) (dI := dI) (q := q) (cI := cI) (cT := cT) (en := en) (sz := _) S2 h) (cwV 1 X.2.2.2.2.1 (gxV 534 535 536 146 27 rfl rfl rfl rfl rfl) rfl rfl rfl q_X0_takeFrom_11_31 ⟨Nat.le_of_ble_eq_true rfl, Nat.le_of_ble_eq_true rfl⟩) (rX_11 X hP) hP hD hS rfl hl.1 rfl (Nat.le_of_ble_eq_true rfl) (dk DX5_takeFrom 14 rfl) (fun S3 H locs h hP hD hS => ?_)
    refine lv_aload_n hx hb (dk DX5_takeFrom 15 rfl) rfl (lv_at hl 0 rfl) ?_
    refine gX_1 X hP 3 (by decide) rfl lk35 (dk DX5_takeFrom 16 rfl) ?_
    refine lv_aload_n hx hb (dk DX5_takeFrom 17 rfl) rfl (lv_at hl 1 rfl) ?_
    refine gX_21 X hP 3 (by decide) rfl lk35 (dk DX5_takeFrom 18 rfl) ?_
    refine cXv (As := [.ref (q 35)]) (rest := []) X (m_X6_takeFrom_15_35 (l := l) (dC := dC) (dI := dI) (q := q) (cI := cI) (cT := cT) (en := en) (sz := _) S3 h) (cwV 1 X.2.2.2.2.1 (gxV 537 538 539 497 522 rfl rfl rfl rfl rfl) rfl rfl rfl q_X6_takeFrom_15_35 ⟨Nat.le_of_ble_eq_true rfl, Nat.le_of_ble_eq_true rfl⟩) (rX_15 X hP) hP hD hS rfl hl.1 rfl (Nat.le_of_ble_eq_true rfl) (dk DX5_takeFrom 19 rfl) (fun S4 H locs h hP hD hS => ?_)
    refine lv_aload_n hx hb (dk DX5_takeFrom 20 rfl) rfl (lv_at hl 0 rfl) ?_
    refine gX_1 X hP 4 (by decide) rfl lk42 (dk DX5_takeFrom 21 rfl) ?_
    refine lv_aload_n hx hb (dk DX5_takeFrom 22 rfl) rfl (lv_at hl 1 rfl) ?_
    refine gX_21 X hP 4 (by decide) rfl lk42 (dk DX5_takeFrom 23 rfl) ?_
    refine cXv (As := [.ref (q 37)]) (rest := []) X (m_X7_takeFrom_17_37 (l := l) (dC := dC) (dI := dI) (q := q) (cI := cI) (cT := cT) (en := en) (sz := _) S4 h) (cwV 1 X.2.2.2.2.1 (gxV 540 541 542 501 525 rfl rfl rfl rfl rfl) rfl rfl rfl q_X7_takeFrom_17_37 ⟨Nat.le_of_ble_eq_true rfl, Nat.le_of_ble_eq_true rfl⟩) (rX_17 X hP) hP hD hS rfl hl.1 rfl (Nat.le_of_ble_eq_true rfl) (dk DX5_takeFrom 24 rfl) (fun S5 H locs h hP hD hS => ?_)
    refine lv_iconst (v := 0) hx hb (dk DX5_takeFrom 25 rfl) (by decide) ?_
    refine lv_istore_n (lv' := [(2, .int 0), (0, .ref (q 1)), (1, .ref (q 21))]) hx hb (dk DX5_takeFrom 26 rfl) rfl hl (by decide) rfl (fun ls hl => ?_)
    exact h _ _ hP hD hS ls (lv_sub hl [1, 2, 0] rfl)
  · rintro x2 S hB
    exact h_X5_takeFrom_1_21_0 X hr hlocks (hK0 := fun _ _ h => h) x2 S hB

def ww_X11_back_0 : List Cond := .code yX11_back cX11_back 1 (some .int) :: (WdX ++ WsX)
theorem q_X11_back_0 : yX11_back.cls = RX11 ∧ yX11_back.cls ≠ "java/lang/invoke/MethodHandle" ∧ yX11_back.cls ≠ "java/lang/invoke/VarHandle" ∧ (parseMethodDescriptor yX11_back.desc).map (fun d => d.parameters.length) = some 0 := by decide +kernel
def VC_X11_back_0 (Post : Int32 → XS → Prop) (S : XS) : Prop := VC_X5_takeFrom_1_21 (fun S1 => Post (S1.1 352) S1) S
set_option maxHeartbeats 4000000 in
set_option maxRecDepth 100000 in
theorem m_X11_back_0 {l : Launch} {dC : Nat → ClassId} {dI : Nat → Nat → Nat} {q : Nat → Nat} {cI cT : ClassId} {en : Nat → Nat} {sz : Nat} {Post : Int32 → XS → Prop} (S : XS) (h : VC_X11_back_0 Post S) : Met l yX11_back ww_X11_back_0 ({ frames := 4, cells := 0, slots := 0, locals := 104 } : Room) (va_Pc [.ref (q 0)] (preX dC dI q cI cT en S sz)) (va_Qi Post (atX dC dI q cI cT (va_A (wX q cI cT S) sz)) (va_A (wX q cI cT S) sz)) 0 0 (va_A (wX q cI cT S) sz) := by
  refine oX (cc := cX11_back) (maxL := 1) (ret := (some .int)) (Qc := fun A => va_Qi Post (atX dC dI q cI cT A) A) (own := RX11) (by decide) rfl (fun w h => List.mem_cons_of_mem _ (List.mem_append_right _ h)) rfl (Nat.le_of_ble_eq_true rfl) (fun p e s m below meth c A ls X hr hlocks hP hD hS hl => ?_)
  have hx := X.1
  have hb := X.2.1
  have hl : lv_has ls 1 [(0, .ref (q 0))] := hl
  have lk12 := X.2.2.2.2.1 (.fieldLink RX11 12 "BreathOnLoan" "now" "LBreathOnLoan$State;") (inX 568 rfl)
  have lk16 := X.2.2.2.2.1 (.fieldLink RX11 16 "BreathOnLoan" "kept" "LBreathOnLoan$State;") (inX 569 rfl)
  have lk141 := X.2.2.2.2.1 (.fieldLink RX11 141 "BreathOnLoan$State" "bench" "LBreathOnLoan$Bench;") (inX 632 rfl)
  have lk191 := X.2.2.2.2.1 (.fieldLink RX11 191 "BreathOnLoan$Bench" "hour" "I") (inX 650 rfl)
  dsimp only [VC_X11_back_0] at h
  refine lv_aload_n hx hb (dk DX11_back 0 rfl) rfl (lv_at hl 0 rfl) ?_
  refine gX_0 X hP 0 (by decide) rfl lk12 (dk DX11_back 1 rfl) ?_
  refine lv_aload_n hx hb (dk DX11_back 2 rfl) rfl (lv_at hl 0 rfl) ?_
  refine gX_0 X hP 1 (by decide) rfl lk16 (dk DX11_back 3 rfl) ?_
  refine cXv (As := [.ref (q 21)]) (rest := []) X (m_X5_takeFrom_1_21 (l := l) (dC := dC) (dI := dI) (q := q) (cI := cI) (cT := cT) (en := en) (sz := _) S h) (cwV 1 X.2.2.2.2.1 (gxV 760 761 762 67 543 rfl rfl rfl rfl rfl) rfl rfl rfl q_X5_takeFrom_1_21 ⟨Nat.le_of_ble_eq_true rfl, Nat.le_of_ble_eq_true rfl⟩) (rX_1 X hP) hP hD hS rfl hl.1 rfl (Nat.le_of_ble_eq_true rfl) (dk DX11_back 4 rfl) (fun S1 H locs h hP hD hS => ?_)
  refine lv_aload_n hx hb (dk DX11_back 5 rfl) rfl (lv_at hl 0 rfl) ?_
  refine gX_0 X hP 0 (by decide) rfl lk12 (dk DX11_back 6 rfl) ?_
  refine gX_1 X hP 2 (by decide) rfl lk141 (dk DX11_back 7 rfl) ?_
  refine gX_11 X hP 0 (by decide) rfl lk191 (dk DX11_back 8 rfl) ?_
  exact W.iret (v := (S1.1 352)) hx hb hr (fun t ht hW => ⟨⟨_, _, rfl, h, by rw [ht]; exact hP, va_K.moved hW.alike X.2.2.2.2.2.2.1, hD⟩, hS.F ht⟩) hS.2.2 (dk DX11_back 9 rfl)

