-- X11_copyRow_6_26 X1_takeFrom_22_2 X11_copyRow_8_28 X11_copyRow_9_29 X11_copyRow_10_30 X10_takeFrom_27_7 X11_copyRow_12_32 X11_copyRow_13_33 X11_copyRow_14_34 X0_takeFrom_31_11 X11_copyRow_16_36 X6_takeFrom_35_15 X11_copyRow_18_38 X11_copyRow_19_39 X7_takeFrom_37_17
def ww_X11_copyRow_6_26 : List Cond := .code yX11_copyRow cX11_copyRow 2 none :: (WdX ++ WsX)
theorem q_X11_copyRow_6_26 : yX11_copyRow.cls ≠ "java/lang/invoke/MethodHandle" ∧ yX11_copyRow.cls ≠ "java/lang/invoke/VarHandle" ∧ (parseMethodDescriptor yX11_copyRow.desc).map (fun d => d.parameters.length) = some 2 := by decide +kernel
def VC_X11_copyRow_6_26 (Post : XS → Prop) (S : XS) : Prop := ∀ v1 : Int32, v1 = (if (6 : Int32) < 6 then 6 else 6) → (¬ (0 : Int32) < 0 ∧ ¬ (0 : Int32) < 0 ∧ ¬ v1 < 0 ∧ (0 : Int32).toNatClampNeg + v1.toNatClampNeg ≤ 6 ∧ (0 : Int32).toNatClampNeg + v1.toNatClampNeg ≤ 6) ∧ ∀ S2 : XS, S2 = xF S 26 (va_cpy (S.2.1 6) (S.2.1 26) (0 : Int32).toNatClampNeg (0 : Int32).toNatClampNeg v1.toNatClampNeg) → Post S2
set_option maxHeartbeats 4000000 in
set_option maxRecDepth 100000 in
theorem m_X11_copyRow_6_26 {l : Launch} {dC : Nat → ClassId} {dI : Nat → Nat → Nat} {q : Nat → Nat} {cI cT : ClassId} {en : Nat → Nat} {sz : Nat} {Post : XS → Prop} (S : XS) (h : VC_X11_copyRow_6_26 Post S) : Met l yX11_copyRow ww_X11_copyRow_6_26 ({ frames := 1, cells := 0, slots := 0, locals := 40 } : Room) (va_Pc [.ref (q 6), .ref (q 26)] (preX dC dI q cI cT en S sz)) (va_Qv Post (atX dC dI q cI cT (va_A (wX q cI cT S) sz)) (va_A (wX q cI cT S) sz)) 0 0 (va_A (wX q cI cT S) sz) := by
  refine oX (cc := cX11_copyRow) (maxL := 2) (ret := none) (Qc := fun A => va_Qv Post (atX dC dI q cI cT A) A) (own := RX11) (by decide) rfl (fun w h => List.mem_cons_of_mem _ (List.mem_append_right _ h)) rfl (Nat.le_of_ble_eq_true rfl) (fun p e s m below meth c A ls X hr hlocks hP hD hS hl => ?_)
  have hx := X.1
  have hb := X.2.1
  have hl : lv_has ls 2 [(0, .ref (q 6)), (1, .ref (q 26))] := hl
  dsimp only [VC_X11_copyRow_6_26] at h
  refine lv_aload_n hx hb (dk DX11_copyRow 0 rfl) rfl (lv_at hl 0 rfl) ?_
  refine lv_iconst (v := 0) hx hb (dk DX11_copyRow 1 rfl) (by decide) ?_
  refine lv_aload_n hx hb (dk DX11_copyRow 2 rfl) rfl (lv_at hl 1 rfl) ?_
  refine lv_iconst (v := 0) hx hb (dk DX11_copyRow 3 rfl) (by decide) ?_
  refine lv_aload_n hx hb (dk DX11_copyRow 4 rfl) rfl (lv_at hl 0 rfl) ?_
  refine alX_6 X hP (dk DX11_copyRow 5 rfl) ?_
  refine lv_aload_n hx hb (dk DX11_copyRow 6 rfl) rfl (lv_at hl 1 rfl) ?_
  refine alX_26 X hP (dk DX11_copyRow 7 rfl) ?_
  refine va_mmin hx hb (X.2.2.1.trans hl.1.symm) X.2.2.2.1 (X.2.2.2.2.1 (.methodLink RX11 309 Lib.Math.min.name) (inX 19 rfl)) (X.2.2.2.2.1 (.static Lib.Math.min.name) (inX 20 rfl)) (X.2.2.2.2.1 (.initialized "java/lang/Math") (inX 21 rfl)) (X.2.2.2.2.1 (.code Lib.Math.min.name Lib.Math.min.code 2 (some .int)) (inX 22 rfl)) (Nat.le_of_ble_eq_true rfl) (Nat.le_of_ble_eq_true rfl) (Nat.zero_le _) (Nat.zero_le _) (dk DX11_copyRow 8 rfl) ?_
  refine lv_topi (fun v1 ev1 => ?_)
  have h := h v1 ev1
  obtain ⟨hcp, h⟩ := h
  refine va_copyi hx hb (X.2.2.1.trans hl.1.symm) X.2.2.2.1 (X.2.2.2.2.1 (.methodLink RX11 320 arraycopyName) (inX 23 rfl)) (X.2.2.2.2.1 (.native arraycopyName) (inX 24 rfl)) (X.2.2.2.2.1 (.static arraycopyName) (inX 25 rfl)) (X.2.2.2.2.1 (.initialized "java/lang/System") (inX 26 rfl)) X.2.2.2.2.2.2.1 hP hD hS 6 26 0 0 (ty := .int) rfl rfl rfl rfl rfl hcp.1 hcp.2.1 hcp.2.2.1 hcp.2.2.2.1 hcp.2.2.2.2 (fun _ _ => rfl) (Nat.le_of_ble_eq_true rfl) (Nat.le_of_ble_eq_true rfl) (dk DX11_copyRow 9 rfl) (fun H locs hP hD hS => ?_)
  obtain ⟨S2, eS2⟩ : ∃ z : XS, z = xF S 26 (va_cpy (S.2.1 6) (S.2.1 26) (0 : Int32).toNatClampNeg (0 : Int32).toNatClampNeg v1.toNatClampNeg) := ⟨_, rfl⟩
  have hP : va_P (dC, dI) vwCl (wX q cI cT S2) H := by rw [eS2]; exact hP
  have hD : va_D A (wX q cI cT S2) := by rw [eS2]; exact hD
  have h := h S2 eS2
  exact W.vret hx hb hr (fun t ht hW => ⟨⟨_, rfl, h, by rw [ht]; exact hP, va_K.moved hW.alike X.2.2.2.2.2.2.1, hD⟩, hS.F ht⟩) hS.2.2 (dk DX11_copyRow 10 rfl)

def ww_X1_takeFrom_22_2 : List Cond := .code yX1_takeFrom cX1_takeFrom 2 none :: (WdX ++ WsX)
theorem q_X1_takeFrom_22_2 : yX1_takeFrom.cls = RX1 ∧ yX1_takeFrom.cls ≠ "java/lang/invoke/MethodHandle" ∧ yX1_takeFrom.cls ≠ "java/lang/invoke/VarHandle" ∧ (parseMethodDescriptor yX1_takeFrom.desc).map (fun d => d.parameters.length) = some 1 := by decide +kernel
def VC_X1_takeFrom_22_2 (Post : XS → Prop) (S : XS) : Prop := ∀ v1 : Int32, v1 = (S.1 64) → ∀ S2 : XS, S2 = xI S 704 v1 → VC_X11_copyRow_3_23 (fun S3 => VC_X11_copyRow_4_24 (fun S4 => VC_X11_copyRow_5_25 (fun S5 => VC_X11_copyRow_6_26 (fun S6 => Post S6) S5) S4) S3) S2
set_option maxHeartbeats 4000000 in
set_option maxRecDepth 100000 in
theorem m_X1_takeFrom_22_2 {l : Launch} {dC : Nat → ClassId} {dI : Nat → Nat → Nat} {q : Nat → Nat} {cI cT : ClassId} {en : Nat → Nat} {sz : Nat} {Post : XS → Prop} (S : XS) (h : VC_X1_takeFrom_22_2 Post S) : Met l yX1_takeFrom ww_X1_takeFrom_22_2 ({ frames := 2, cells := 0, slots := 0, locals := 61 } : Room) (va_Pc [.ref (q 22), .ref (q 2)] (preX dC dI q cI cT en S sz)) (va_Qv Post (atX dC dI q cI cT (va_A (wX q cI cT S) sz)) (va_A (wX q cI cT S) sz)) 0 0 (va_A (wX q cI cT S) sz) := by
  refine oX (cc := cX1_takeFrom) (maxL := 2) (ret := none) (Qc := fun A => va_Qv Post (atX dC dI q cI cT A) A) (own := RX1) (by decide) rfl (fun w h => List.mem_cons_of_mem _ (List.mem_append_right _ h)) rfl (Nat.le_of_ble_eq_true rfl) (fun p e s m below meth c A ls X hr hlocks hP hD hS hl => ?_)
  have hx := X.1
  have hb := X.2.1
  have hl : lv_has ls 2 [(0, .ref (q 22)), (1, .ref (q 2))] := hl
  have lk24 := X.2.2.2.2.1 (.fieldLink RX1 24 "BreathOnLoan$Crew" "count" "I") (inX 36 rfl)
  have lk9 := X.2.2.2.2.1 (.fieldLink RX1 9 "BreathOnLoan$Crew" "lungs" "[I") (inX 31 rfl)
  have lk15 := X.2.2.2.2.1 (.fieldLink RX1 15 "BreathOnLoan$Crew" "voice" "[I") (inX 32 rfl)
  have lk18 := X.2.2.2.2.1 (.fieldLink RX1 18 "BreathOnLoan$Crew" "beads" "[I") (inX 33 rfl)
  have lk21 := X.2.2.2.2.1 (.fieldLink RX1 21 "BreathOnLoan$Crew" "foes" "[I") (inX 34 rfl)
  dsimp only [VC_X1_takeFrom_22_2] at h
  refine lv_aload_n hx hb (dk DX1_takeFrom 0 rfl) rfl (lv_at hl 0 rfl) ?_
  refine lv_aload_n hx hb (dk DX1_takeFrom 1 rfl) rfl (lv_at hl 1 rfl) ?_
  refine gX_2 X hP 0 (by decide) rfl lk24 (dk DX1_takeFrom 2 rfl) ?_
  refine lv_topi (fun v1 ev1 => ?_)
  have h := h v1 ev1
  refine pX_22_0 X hP hD hS lk24 (dk DX1_takeFrom 3 rfl) (fun S2 eS2 H locs hP hD hS => ?_)
  have h := h S2 eS2
  refine lv_aload_n hx hb (dk DX1_takeFrom 4 rfl) rfl (lv_at hl 1 rfl) ?_
  refine gX_2 X hP 1 (by decide) rfl lk9 (dk DX1_takeFrom 5 rfl) ?_
  refine lv_aload_n hx hb (dk DX1_takeFrom 6 rfl) rfl (lv_at hl 0 rfl) ?_
  refine gX_22 X hP 1 (by decide) rfl lk9 (dk DX1_takeFrom 7 rfl) ?_
  refine cXnv (As := [.ref (q 3), .ref (q 23)]) (rest := []) X (m_X11_copyRow_3_23 (l := l) (dC := dC) (dI := dI) (q := q) (cI := cI) (cT := cT) (en := en) (sz := _) S2 h) ⟨va_cnB (host := "BreathOnLoan") 2 X.2.2.2.2.1 (gxB (List.mem_of_getElem? (i := 18) rfl)) rfl rfl rfl (X.2.2.2.2.2.2.2.2.1.1 _ (List.mem_of_getElem? (i := 5) rfl)) (X.2.2.2.2.1 (.initialized RX11) (inX 16 rfl)) q_X11_copyRow_3_23 ⟨Nat.le_of_ble_eq_true rfl, Nat.le_of_ble_eq_true rfl⟩, X.2.2.2.2.1 (.static yX11_copyRow) (inX 28 rfl), trivial⟩ hP hD hS rfl hl.1 rfl (Nat.le_of_ble_eq_true rfl) (dk DX1_takeFrom 8 rfl) (fun S3 H locs h hP hD hS => ?_)
  refine lv_aload_n hx hb (dk DX1_takeFrom 9 rfl) rfl (lv_at hl 1 rfl) ?_
  refine gX_2 X hP 2 (by decide) rfl lk15 (dk DX1_takeFrom 10 rfl) ?_
  refine lv_aload_n hx hb (dk DX1_takeFrom 11 rfl) rfl (lv_at hl 0 rfl) ?_
  refine gX_22 X hP 2 (by decide) rfl lk15 (dk DX1_takeFrom 12 rfl) ?_
  refine cXnv (As := [.ref (q 4), .ref (q 24)]) (rest := []) X (m_X11_copyRow_4_24 (l := l) (dC := dC) (dI := dI) (q := q) (cI := cI) (cT := cT) (en := en) (sz := _) S3 h) ⟨va_cnB (host := "BreathOnLoan") 2 X.2.2.2.2.1 (gxB (List.mem_of_getElem? (i := 18) rfl)) rfl rfl rfl (X.2.2.2.2.2.2.2.2.1.1 _ (List.mem_of_getElem? (i := 5) rfl)) (X.2.2.2.2.1 (.initialized RX11) (inX 16 rfl)) q_X11_copyRow_4_24 ⟨Nat.le_of_ble_eq_true rfl, Nat.le_of_ble_eq_true rfl⟩, X.2.2.2.2.1 (.static yX11_copyRow) (inX 28 rfl), trivial⟩ hP hD hS rfl hl.1 rfl (Nat.le_of_ble_eq_true rfl) (dk DX1_takeFrom 13 rfl) (fun S4 H locs h hP hD hS => ?_)
  refine lv_aload_n hx hb (dk DX1_takeFrom 14 rfl) rfl (lv_at hl 1 rfl) ?_
  refine gX_2 X hP 3 (by decide) rfl lk18 (dk DX1_takeFrom 15 rfl) ?_
  refine lv_aload_n hx hb (dk DX1_takeFrom 16 rfl) rfl (lv_at hl 0 rfl) ?_
  refine gX_22 X hP 3 (by decide) rfl lk18 (dk DX1_takeFrom 17 rfl) ?_
  refine cXnv (As := [.ref (q 5), .ref (q 25)]) (rest := []) X (m_X11_copyRow_5_25 (l := l) (dC := dC) (dI := dI) (q := q) (cI := cI) (cT := cT) (en := en) (sz := _) S4 h) ⟨va_cnB (host := "BreathOnLoan") 2 X.2.2.2.2.1 (gxB (List.mem_of_getElem? (i := 18) rfl)) rfl rfl rfl (X.2.2.2.2.2.2.2.2.1.1 _ (List.mem_of_getElem? (i := 5) rfl)) (X.2.2.2.2.1 (.initialized RX11) (inX 16 rfl)) q_X11_copyRow_5_25 ⟨Nat.le_of_ble_eq_true rfl, Nat.le_of_ble_eq_true rfl⟩, X.2.2.2.2.1 (.static yX11_copyRow) (inX 28 rfl), trivial⟩ hP hD hS rfl hl.1 rfl (Nat.le_of_ble_eq_true rfl) (dk DX1_takeFrom 18 rfl) (fun S5 H locs h hP hD hS => ?_)
  refine lv_aload_n hx hb (dk DX1_takeFrom 19 rfl) rfl (lv_at hl 1 rfl) ?_
  refine gX_2 X hP 4 (by decide) rfl lk21 (dk DX1_takeFrom 20 rfl) ?_
  refine lv_aload_n hx hb (dk DX1_takeFrom 21 rfl) rfl (lv_at hl 0 rfl) ?_
  refine gX_22 X hP 4 (by decide) rfl lk21 (dk DX1_takeFrom 22 rfl) ?_
  refine cXnv (As := [.ref (q 6), .ref (q 26)]) (rest := []) X (m_X11_copyRow_6_26 (l := l) (dC := dC) (dI := dI) (q := q) (cI := cI) (cT := cT) (en := en) (sz := _) S5 h) ⟨va_cnB (host := "BreathOnLoan") 2 X.2.2.2.2.1 (gxB (List.mem_of_getElem? (i := 18) rfl)) rfl rfl rfl (X.2.2.2.2.2.2.2.2.1.1 _ (List.mem_of_getElem? (i := 5) rfl)) (X.2.2.2.2.1 (.initialized RX11) (inX 16 rfl)) q_X11_copyRow_6_26 ⟨Nat.le_of_ble_eq_true rfl, Nat.le_of_ble_eq_true rfl⟩, X.2.2.2.2.1 (.static yX11_copyRow) (inX 28 rfl), trivial⟩ hP hD hS rfl hl.1 rfl (Nat.le_of_ble_eq_true rfl) (dk DX1_takeFrom 23 rfl) (fun S6 H locs h hP hD hS => ?_)
  exact W.vret hx hb hr (fun t ht hW => ⟨⟨_, rfl, h, by rw [ht]; exact hP, va_K.moved hW.alike X.2.2.2.2.2.2.1, hD⟩, hS.F ht⟩) hS.2.2 (dk DX1_takeFrom 24 rfl)

def ww_X11_copyRow_8_28 : List Cond := .code yX11_copyRow cX11_copyRow 2 none :: (WdX ++ WsX)
theorem q_X11_copyRow_8_28 : yX11_copyRow.cls ≠ "java/lang/invoke/MethodHandle" ∧ yX11_copyRow.cls ≠ "java/lang/invoke/VarHandle" ∧ (parseMethodDescriptor yX11_copyRow.desc).map (fun d => d.parameters.length) = some 2 := by decide +kernel
def VC_X11_copyRow_8_28 (Post : XS → Prop) (S : XS) : Prop := ∀ v1 : Int32, v1 = (if (6 : Int32) < 6 then 6 else 6) → (¬ (0 : Int32) < 0 ∧ ¬ (0 : Int32) < 0 ∧ ¬ v1 < 0 ∧ (0 : Int32).toNatClampNeg + v1.toNatClampNeg ≤ 6 ∧ (0 : Int32).toNatClampNeg + v1.toNatClampNeg ≤ 6) ∧ ∀ S2 : XS, S2 = xF S 28 (va_cpy (S.2.1 8) (S.2.1 28) (0 : Int32).toNatClampNeg (0 : Int32).toNatClampNeg v1.toNatClampNeg) → Post S2
set_option maxHeartbeats 4000000 in
set_option maxRecDepth 100000 in
theorem m_X11_copyRow_8_28 {l : Launch} {dC : Nat → ClassId} {dI : Nat → Nat → Nat} {q : Nat → Nat} {cI cT : ClassId} {en : Nat → Nat} {sz : Nat} {Post : XS → Prop} (S : XS) (h : VC_X11_copyRow_8_28 Post S) : Met l yX11_copyRow ww_X11_copyRow_8_28 ({ frames := 1, cells := 0, slots := 0, locals := 40 } : Room) (va_Pc [.ref (q 8), .ref (q 28)] (preX dC dI q cI cT en S sz)) (va_Qv Post (atX dC dI q cI cT (va_A (wX q cI cT S) sz)) (va_A (wX q cI cT S) sz)) 0 0 (va_A (wX q cI cT S) sz) := by
  refine oX (cc := cX11_copyRow) (maxL := 2) (ret := none) (Qc := fun A => va_Qv Post (atX dC dI q cI cT A) A) (own := RX11) (by decide) rfl (fun w h => List.mem_cons_of_mem _ (List.mem_append_right _ h)) rfl (Nat.le_of_ble_eq_true rfl) (fun p e s m below meth c A ls X hr hlocks hP hD hS hl => ?_)
  have hx := X.1
  have hb := X.2.1
  have hl : lv_has ls 2 [(0, .ref (q 8)), (1, .ref (q 28))] := hl
  dsimp only [VC_X11_copyRow_8_28] at h
  refine lv_aload_n hx hb (dk DX11_copyRow 0 rfl) rfl (lv_at hl 0 rfl) ?_
  refine lv_iconst (v := 0) hx hb (dk DX11_copyRow 1 rfl) (by decide) ?_
  refine lv_aload_n hx hb (dk DX11_copyRow 2 rfl) rfl (lv_at hl 1 rfl) ?_
  refine lv_iconst (v := 0) hx hb (dk DX11_copyRow 3 rfl) (by decide) ?_
  refine lv_aload_n hx hb (dk DX11_copyRow 4 rfl) rfl (lv_at hl 0 rfl) ?_
  refine alX_8 X hP (dk DX11_copyRow 5 rfl) ?_
  refine lv_aload_n hx hb (dk DX11_copyRow 6 rfl) rfl (lv_at hl 1 rfl) ?_
  refine alX_28 X hP (dk DX11_copyRow 7 rfl) ?_
  refine va_mmin hx hb (X.2.2.1.trans hl.1.symm) X.2.2.2.1 (X.2.2.2.2.1 (.methodLink RX11 309 Lib.Math.min.name) (inX 19 rfl)) (X.2.2.2.2.1 (.static Lib.Math.min.name) (inX 20 rfl)) (X.2.2.2.2.1 (.initialized "java/lang/Math") (inX 21 rfl)) (X.2.2.2.2.1 (.code Lib.Math.min.name Lib.Math.min.code 2 (some .int)) (inX 22 rfl)) (Nat.le_of_ble_eq_true rfl) (Nat.le_of_ble_eq_true rfl) (Nat.zero_le _) (Nat.zero_le _) (dk DX11_copyRow 8 rfl) ?_
  refine lv_topi (fun v1 ev1 => ?_)
  have h := h v1 ev1
  obtain ⟨hcp, h⟩ := h
  refine va_copyi hx hb (X.2.2.1.trans hl.1.symm) X.2.2.2.1 (X.2.2.2.2.1 (.methodLink RX11 320 arraycopyName) (inX 23 rfl)) (X.2.2.2.2.1 (.native arraycopyName) (inX 24 rfl)) (X.2.2.2.2.1 (.static arraycopyName) (inX 25 rfl)) (X.2.2.2.2.1 (.initialized "java/lang/System") (inX 26 rfl)) X.2.2.2.2.2.2.1 hP hD hS 8 28 0 0 (ty := .int) rfl rfl rfl rfl rfl hcp.1 hcp.2.1 hcp.2.2.1 hcp.2.2.2.1 hcp.2.2.2.2 (fun _ _ => rfl) (Nat.le_of_ble_eq_true rfl) (Nat.le_of_ble_eq_true rfl) (dk DX11_copyRow 9 rfl) (fun H locs hP hD hS => ?_)
  obtain ⟨S2, eS2⟩ : ∃ z : XS, z = xF S 28 (va_cpy (S.2.1 8) (S.2.1 28) (0 : Int32).toNatClampNeg (0 : Int32).toNatClampNeg v1.toNatClampNeg) := ⟨_, rfl⟩
  have hP : va_P (dC, dI) vwCl (wX q cI cT S2) H := by rw [eS2]; exact hP
  have hD : va_D A (wX q cI cT S2) := by rw [eS2]; exact hD
  have h := h S2 eS2
  exact W.vret hx hb hr (fun t ht hW => ⟨⟨_, rfl, h, by rw [ht]; exact hP, va_K.moved hW.alike X.2.2.2.2.2.2.1, hD⟩, hS.F ht⟩) hS.2.2 (dk DX11_copyRow 10 rfl)

def ww_X11_copyRow_9_29 : List Cond := .code yX11_copyRow cX11_copyRow 2 none :: (WdX ++ WsX)
theorem q_X11_copyRow_9_29 : yX11_copyRow.cls ≠ "java/lang/invoke/MethodHandle" ∧ yX11_copyRow.cls ≠ "java/lang/invoke/VarHandle" ∧ (parseMethodDescriptor yX11_copyRow.desc).map (fun d => d.parameters.length) = some 2 := by decide +kernel
def VC_X11_copyRow_9_29 (Post : XS → Prop) (S : XS) : Prop := ∀ v1 : Int32, v1 = (if (6 : Int32) < 6 then 6 else 6) → (¬ (0 : Int32) < 0 ∧ ¬ (0 : Int32) < 0 ∧ ¬ v1 < 0 ∧ (0 : Int32).toNatClampNeg + v1.toNatClampNeg ≤ 6 ∧ (0 : Int32).toNatClampNeg + v1.toNatClampNeg ≤ 6) ∧ ∀ S2 : XS, S2 = xF S 29 (va_cpy (S.2.1 9) (S.2.1 29) (0 : Int32).toNatClampNeg (0 : Int32).toNatClampNeg v1.toNatClampNeg) → Post S2
set_option maxHeartbeats 4000000 in
set_option maxRecDepth 100000 in
theorem m_X11_copyRow_9_29 {l : Launch} {dC : Nat → ClassId} {dI : Nat → Nat → Nat} {q : Nat → Nat} {cI cT : ClassId} {en : Nat → Nat} {sz : Nat} {Post : XS → Prop} (S : XS) (h : VC_X11_copyRow_9_29 Post S) : Met l yX11_copyRow ww_X11_copyRow_9_29 ({ frames := 1, cells := 0, slots := 0, locals := 40 } : Room) (va_Pc [.ref (q 9), .ref (q 29)] (preX dC dI q cI cT en S sz)) (va_Qv Post (atX dC dI q cI cT (va_A (wX q cI cT S) sz)) (va_A (wX q cI cT S) sz)) 0 0 (va_A (wX q cI cT S) sz) := by
  refine oX (cc := cX11_copyRow) (maxL := 2) (ret := none) (Qc := fun A => va_Qv Post (atX dC dI q cI cT A) A) (own := RX11) (by decide) rfl (fun w h => List.mem_cons_of_mem _ (List.mem_append_right _ h)) rfl (Nat.le_of_ble_eq_true rfl) (fun p e s m below meth c A ls X hr hlocks hP hD hS hl => ?_)
  have hx := X.1
  have hb := X.2.1
  have hl : lv_has ls 2 [(0, .ref (q 9)), (1, .ref (q 29))] := hl
  dsimp only [VC_X11_copyRow_9_29] at h
  refine lv_aload_n hx hb (dk DX11_copyRow 0 rfl) rfl (lv_at hl 0 rfl) ?_
  refine lv_iconst (v := 0) hx hb (dk DX11_copyRow 1 rfl) (by decide) ?_
  refine lv_aload_n hx hb (dk DX11_copyRow 2 rfl) rfl (lv_at hl 1 rfl) ?_
  refine lv_iconst (v := 0) hx hb (dk DX11_copyRow 3 rfl) (by decide) ?_
  refine lv_aload_n hx hb (dk DX11_copyRow 4 rfl) rfl (lv_at hl 0 rfl) ?_
  refine alX_9 X hP (dk DX11_copyRow 5 rfl) ?_
  refine lv_aload_n hx hb (dk DX11_copyRow 6 rfl) rfl (lv_at hl 1 rfl) ?_
  refine alX_29 X hP (dk DX11_copyRow 7 rfl) ?_
  refine va_mmin hx hb (X.2.2.1.trans hl.1.symm) X.2.2.2.1 (X.2.2.2.2.1 (.methodLink RX11 309 Lib.Math.min.name) (inX 19 rfl)) (X.2.2.2.2.1 (.static Lib.Math.min.name) (inX 20 rfl)) (X.2.2.2.2.1 (.initialized "java/lang/Math") (inX 21 rfl)) (X.2.2.2.2.1 (.code Lib.Math.min.name Lib.Math.min.code 2 (some .int)) (inX 22 rfl)) (Nat.le_of_ble_eq_true rfl) (Nat.le_of_ble_eq_true rfl) (Nat.zero_le _) (Nat.zero_le _) (dk DX11_copyRow 8 rfl) ?_
  refine lv_topi (fun v1 ev1 => ?_)
  have h := h v1 ev1
  obtain ⟨hcp, h⟩ := h
  refine va_copyi hx hb (X.2.2.1.trans hl.1.symm) X.2.2.2.1 (X.2.2.2.2.1 (.methodLink RX11 320 arraycopyName) (inX 23 rfl)) (X.2.2.2.2.1 (.native arraycopyName) (inX 24 rfl)) (X.2.2.2.2.1 (.static arraycopyName) (inX 25 rfl)) (X.2.2.2.2.1 (.initialized "java/lang/System") (inX 26 rfl)) X.2.2.2.2.2.2.1 hP hD hS 9 29 0 0 (ty := .int) rfl rfl rfl rfl rfl hcp.1 hcp.2.1 hcp.2.2.1 hcp.2.2.2.1 hcp.2.2.2.2 (fun _ _ => rfl) (Nat.le_of_ble_eq_true rfl) (Nat.le_of_ble_eq_true rfl) (dk DX11_copyRow 9 rfl) (fun H locs hP hD hS => ?_)
  obtain ⟨S2, eS2⟩ : ∃ z : XS, z = xF S 29 (va_cpy (S.2.1 9) (S.2.1 29) (0 : Int32).toNatClampNeg (0 : Int32).toNatClampNeg v1.toNatClampNeg) := ⟨_, rfl⟩
  have hP : va_P (dC, dI) vwCl (wX q cI cT S2) H := by rw [eS2]; exact hP
  have hD : va_D A (wX q cI cT S2) := by rw [eS2]; exact hD
  have h := h S2 eS2
  exact W.vret hx hb hr (fun t ht hW => ⟨⟨_, rfl, h, by rw [ht]; exact hP, va_K.moved hW.alike X.2.2.2.2.2.2.1, hD⟩, hS.F ht⟩) hS.2.2 (dk DX11_copyRow 10 rfl)

def ww_X11_copyRow_10_30 : List Cond := .code yX11_copyRow cX11_copyRow 2 none :: (WdX ++ WsX)
theorem q_X11_copyRow_10_30 : yX11_copyRow.cls ≠ "java/lang/invoke/MethodHandle" ∧ yX11_copyRow.cls ≠ "java/lang/invoke/VarHandle" ∧ (parseMethodDescriptor yX11_copyRow.desc).map (fun d => d.parameters.length) = some 2 := by decide +kernel
def VC_X11_copyRow_10_30 (Post : XS → Prop) (S : XS) : Prop := ∀ v1 : Int32, v1 = (if (6 : Int32) < 6 then 6 else 6) → (¬ (0 : Int32) < 0 ∧ ¬ (0 : Int32) < 0 ∧ ¬ v1 < 0 ∧ (0 : Int32).toNatClampNeg + v1.toNatClampNeg ≤ 6 ∧ (0 : Int32).toNatClampNeg + v1.toNatClampNeg ≤ 6) ∧ ∀ S2 : XS, S2 = xF S 30 (va_cpy (S.2.1 10) (S.2.1 30) (0 : Int32).toNatClampNeg (0 : Int32).toNatClampNeg v1.toNatClampNeg) → Post S2
set_option maxHeartbeats 4000000 in
set_option maxRecDepth 100000 in
theorem m_X11_copyRow_10_30 {l : Launch} {dC : Nat → ClassId} {dI : Nat → Nat → Nat} {q : Nat → Nat} {cI cT : ClassId} {en : Nat → Nat} {sz : Nat} {Post : XS → Prop} (S : XS) (h : VC_X11_copyRow_10_30 Post S) : Met l yX11_copyRow ww_X11_copyRow_10_30 ({ frames := 1, cells := 0, slots := 0, locals := 40 } : Room) (va_Pc [.ref (q 10), .ref (q 30)] (preX dC dI q cI cT en S sz)) (va_Qv Post (atX dC dI q cI cT (va_A (wX q cI cT S) sz)) (va_A (wX q cI cT S) sz)) 0 0 (va_A (wX q cI cT S) sz) := by
  refine oX (cc := cX11_copyRow) (maxL := 2) (ret := none) (Qc := fun A => va_Qv Post (atX dC dI q cI cT A) A) (own := RX11) (by decide) rfl (fun w h => List.mem_cons_of_mem _ (List.mem_append_right _ h)) rfl (Nat.le_of_ble_eq_true rfl) (fun p e s m below meth c A ls X hr hlocks hP hD hS hl => ?_)
  have hx := X.1
  have hb := X.2.1
  have hl : lv_has ls 2 [(0, .ref (q 10)), (1, .ref (q 30))] := hl
  dsimp only [VC_X11_copyRow_10_30] at h
  refine lv_aload_n hx hb (dk DX11_copyRow 0 rfl) rfl (lv_at hl 0 rfl) ?_
  refine lv_iconst (v := 0) hx hb (dk DX11_copyRow 1 rfl) (by decide) ?_
  refine lv_aload_n hx hb (dk DX11_copyRow 2 rfl) rfl (lv_at hl 1 rfl) ?_
  refine lv_iconst (v := 0) hx hb (dk DX11_copyRow 3 rfl) (by decide) ?_
  refine lv_aload_n hx hb (dk DX11_copyRow 4 rfl) rfl (lv_at hl 0 rfl) ?_
  refine alX_10 X hP (dk DX11_copyRow 5 rfl) ?_
  refine lv_aload_n hx hb (dk DX11_copyRow 6 rfl) rfl (lv_at hl 1 rfl) ?_
  refine alX_30 X hP (dk DX11_copyRow 7 rfl) ?_
  refine va_mmin hx hb (X.2.2.1.trans hl.1.symm) X.2.2.2.1 (X.2.2.2.2.1 (.methodLink RX11 309 Lib.Math.min.name) (inX 19 rfl)) (X.2.2.2.2.1 (.static Lib.Math.min.name) (inX 20 rfl)) (X.2.2.2.2.1 (.initialized "java/lang/Math") (inX 21 rfl)) (X.2.2.2.2.1 (.code Lib.Math.min.name Lib.Math.min.code 2 (some .int)) (inX 22 rfl)) (Nat.le_of_ble_eq_true rfl) (Nat.le_of_ble_eq_true rfl) (Nat.zero_le _) (Nat.zero_le _) (dk DX11_copyRow 8 rfl) ?_
  refine lv_topi (fun v1 ev1 => ?_)
  have h := h v1 ev1
  obtain ⟨hcp, h⟩ := h
  refine va_copyi hx hb (X.2.2.1.trans hl.1.symm) X.2.2.2.1 (X.2.2.2.2.1 (.methodLink RX11 320 arraycopyName) (inX 23 rfl)) (X.2.2.2.2.1 (.native arraycopyName) (inX 24 rfl)) (X.2.2.2.2.1 (.static arraycopyName) (inX 25 rfl)) (X.2.2.2.2.1 (.initialized "java/lang/System") (inX 26 rfl)) X.2.2.2.2.2.2.1 hP hD hS 10 30 0 0 (ty := .int) rfl rfl rfl rfl rfl hcp.1 hcp.2.1 hcp.2.2.1 hcp.2.2.2.1 hcp.2.2.2.2 (fun _ _ => rfl) (Nat.le_of_ble_eq_true rfl) (Nat.le_of_ble_eq_true rfl) (dk DX11_copyRow 9 rfl) (fun H locs hP hD hS => ?_)
  obtain ⟨S2, eS2⟩ : ∃ z : XS, z = xF S 30 (va_cpy (S.2.1 10) (S.2.1 30) (0 : Int32).toNatClampNeg (0 : Int32).toNatClampNeg v1.toNatClampNeg) := ⟨_, rfl⟩
  have hP : va_P (dC, dI) vwCl (wX q cI cT S2) H := by rw [eS2]; exact hP
  have hD : va_D A (wX q cI cT S2) := by rw [eS2]; exact hD
  have h := h S2 eS2
  exact W.vret hx hb hr (fun t ht hW => ⟨⟨_, rfl, h, by rw [ht]; exact hP, va_K.moved hW.alike X.2.2.2.2.2.2.1, hD⟩, hS.F ht⟩) hS.2.2 (dk DX11_copyRow 10 rfl)

def ww_X10_takeFrom_27_7 : List Cond := .code yX10_takeFrom cX10_takeFrom 2 none :: (WdX ++ WsX)
theorem q_X10_takeFrom_27_7 : yX10_takeFrom.cls = RX10 ∧ yX10_takeFrom.cls ≠ "java/lang/invoke/MethodHandle" ∧ yX10_takeFrom.cls ≠ "java/lang/invoke/VarHandle" ∧ (parseMethodDescriptor yX10_takeFrom.desc).map (fun d => d.parameters.length) = some 1 := by decide +kernel
def VC_X10_takeFrom_27_7 (Post : XS → Prop) (S : XS) : Prop := ∀ v1 : Int32, v1 = (S.1 224) → ∀ S2 : XS, S2 = xI S 864 v1 → VC_X11_copyRow_8_28 (fun S3 => VC_X11_copyRow_9_29 (fun S4 => VC_X11_copyRow_10_30 (fun S5 => Post S5) S4) S3) S2
set_option maxHeartbeats 4000000 in
set_option maxRecDepth 100000 in
theorem m_X10_takeFrom_27_7 {l : Launch} {dC : Nat → ClassId} {dI : Nat → Nat → Nat} {q : Nat → Nat} {cI cT : ClassId} {en : Nat → Nat} {sz : Nat} {Post : XS → Prop} (S : XS) (h : VC_X10_takeFrom_27_7 Post S) : Met l yX10_takeFrom ww_X10_takeFrom_27_7 ({ frames := 2, cells := 0, slots := 0, locals := 61 } : Room) (va_Pc [.ref (q 27), .ref (q 7)] (preX dC dI q cI cT en S sz)) (va_Qv Post (atX dC dI q cI cT (va_A (wX q cI cT S) sz)) (va_A (wX q cI cT S) sz)) 0 0 (va_A (wX q cI cT S) sz) := by
  refine oX (cc := cX10_takeFrom) (maxL := 2) (ret := none) (Qc := fun A => va_Qv Post (atX dC dI q cI cT A) A) (own := RX10) (by decide) rfl (fun w h => List.mem_cons_of_mem _ (List.mem_append_right _ h)) rfl (Nat.le_of_ble_eq_true rfl) (fun p e s m below meth c A ls X hr hlocks hP hD hS hl => ?_)
  have hx := X.1
  have hb := X.2.1
  have hl : lv_has ls 2 [(0, .ref (q 27)), (1, .ref (q 7))] := hl
  have lk21 := X.2.2.2.2.1 (.fieldLink RX10 21 "BreathOnLoan$Wares" "count" "I") (inX 136 rfl)
  have lk9 := X.2.2.2.2.1 (.fieldLink RX10 9 "BreathOnLoan$Wares" "want" "[I") (inX 475 rfl)
  have lk15 := X.2.2.2.2.1 (.fieldLink RX10 15 "BreathOnLoan$Wares" "voices" "[I") (inX 476 rfl)
  have lk18 := X.2.2.2.2.1 (.fieldLink RX10 18 "BreathOnLoan$Wares" "worth" "[I") (inX 477 rfl)
  dsimp only [VC_X10_takeFrom_27_7] at h
  refine lv_aload_n hx hb (dk DX10_takeFrom 0 rfl) rfl (lv_at hl 0 rfl) ?_
  refine lv_aload_n hx hb (dk DX10_takeFrom 1 rfl) rfl (lv_at hl 1 rfl) ?_
  refine gX_7 X hP 0 (by decide) rfl lk21 (dk DX10_takeFrom 2 rfl) ?_
  refine lv_topi (fun v1 ev1 => ?_)
  have h := h v1 ev1
  refine pX_27_0 X hP hD hS lk21 (dk DX10_takeFrom 3 rfl) (fun S2 eS2 H locs hP hD hS => ?_)
  have h := h S2 eS2
  refine lv_aload_n hx hb (dk DX10_takeFrom 4 rfl) rfl (lv_at hl 1 rfl) ?_
  refine gX_7 X hP 1 (by decide) rfl lk9 (dk DX10_takeFrom 5 rfl) ?_
  refine lv_aload_n hx hb (dk DX10_takeFrom 6 rfl) rfl (lv_at hl 0 rfl) ?_
  refine gX_27 X hP 1 (by decide) rfl lk9 (dk DX10_takeFrom 7 rfl) ?_
  refine cXnv (As := [.ref (q 8), .ref (q 28)]) (rest := []) X (m_X11_copyRow_8_28 (l := l) (dC := dC) (dI := dI) (q := q) (cI := cI) (cT := cT) (en := en) (sz := _) S2 h) ⟨va_cnB (host := "BreathOnLoan") 2 X.2.2.2.2.1 (gxB (List.mem_of_getElem? (i := 18) rfl)) rfl rfl rfl (X.2.2.2.2.2.2.2.2.1.1 _ (List.mem_of_getElem? (i := 6) rfl)) (X.2.2.2.2.1 (.initialized RX11) (inX 16 rfl)) q_X11_copyRow_8_28 ⟨Nat.le_of_ble_eq_true rfl, Nat.le_of_ble_eq_true rfl⟩, X.2.2.2.2.1 (.static yX11_copyRow) (inX 28 rfl), trivial⟩ hP hD hS rfl hl.1 rfl (Nat.le_of_ble_eq_true rfl) (dk DX10_takeFrom 8 rfl) (fun S3 H locs h hP hD hS => ?_)
  refine lv_aload_n hx hb (dk DX10_takeFrom 9 rfl) rfl (lv_at hl 1 rfl) ?_
  refine gX_7 X hP 2 (by decide) rfl lk15 (dk DX10_takeFrom 10 rfl) ?_
  refine lv_aload_n hx hb (dk DX10_takeFrom 11 rfl) rfl (lv_at hl 0 rfl) ?_
  refine gX_27 X hP 2 (by decide) rfl lk15 (dk DX10_takeFrom 12 rfl) ?_
  refine cXnv (As := [.ref (q 9), .ref (q 29)]) (rest := []) X (m_X11_copyRow_9_29 (l := l) (dC := dC) (dI := dI) (q := q) (cI := cI) (cT := cT) (en := en) (sz := _) S3 h) ⟨va_cnB (host := "BreathOnLoan") 2 X.2.2.2.2.1 (gxB (List.mem_of_getElem? (i := 18) rfl)) rfl rfl rfl (X.2.2.2.2.2.2.2.2.1.1 _ (List.mem_of_getElem? (i := 6) rfl)) (X.2.2.2.2.1 (.initialized RX11) (inX 16 rfl)) q_X11_copyRow_9_29 ⟨Nat.le_of_ble_eq_true rfl, Nat.le_of_ble_eq_true rfl⟩, X.2.2.2.2.1 (.static yX11_copyRow) (inX 28 rfl), trivial⟩ hP hD hS rfl hl.1 rfl (Nat.le_of_ble_eq_true rfl) (dk DX10_takeFrom 13 rfl) (fun S4 H locs h hP hD hS => ?_)
  refine lv_aload_n hx hb (dk DX10_takeFrom 14 rfl) rfl (lv_at hl 1 rfl) ?_
  refine gX_7 X hP 3 (by decide) rfl lk18 (dk DX10_takeFrom 15 rfl) ?_
  refine lv_aload_n hx hb (dk DX10_takeFrom 16 rfl) rfl (lv_at hl 0 rfl) ?_
  refine gX_27 X hP 3 (by decide) rfl lk18 (dk DX10_takeFrom 17 rfl) ?_
  refine cXnv (As := [.ref (q 10), .ref (q 30)]) (rest := []) X (m_X11_copyRow_10_30 (l := l) (dC := dC) (dI := dI) (q := q) (cI := cI) (cT := cT) (en := en) (sz := _) S4 h) ⟨va_cnB (host := "BreathOnLoan") 2 X.2.2.2.2.1 (gxB (List.mem_of_getElem? (i := 18) rfl)) rfl rfl rfl (X.2.2.2.2.2.2.2.2.1.1 _ (List.mem_of_getElem? (i := 6) rfl)) (X.2.2.2.2.1 (.initialized RX11) (inX 16 rfl)) q_X11_copyRow_10_30 ⟨Nat.le_of_ble_eq_true rfl, Nat.le_of_ble_eq_true rfl⟩, X.2.2.2.2.1 (.static yX11_copyRow) (inX 28 rfl), trivial⟩ hP hD hS rfl hl.1 rfl (Nat.le_of_ble_eq_true rfl) (dk DX10_takeFrom 18 rfl) (fun S5 H locs h hP hD hS => ?_)
  exact W.vret hx hb hr (fun t ht hW => ⟨⟨_, rfl, h, by rw [ht]; exact hP, va_K.moved hW.alike X.2.2.2.2.2.2.1, hD⟩, hS.F ht⟩) hS.2.2 (dk DX10_takeFrom 19 rfl)

def ww_X11_copyRow_12_32 : List Cond := .code yX11_copyRow cX11_copyRow 2 none :: (WdX ++ WsX)
theorem q_X11_copyRow_12_32 : yX11_copyRow.cls ≠ "java/lang/invoke/MethodHandle" ∧ yX11_copyRow.cls ≠ "java/lang/invoke/VarHandle" ∧ (parseMethodDescriptor yX11_copyRow.desc).map (fun d => d.parameters.length) = some 2 := by decide +kernel
def VC_X11_copyRow_12_32 (Post : XS → Prop) (S : XS) : Prop := ∀ v1 : Int32, v1 = (if (10 : Int32) < 10 then 10 else 10) → (¬ (0 : Int32) < 0 ∧ ¬ (0 : Int32) < 0 ∧ ¬ v1 < 0 ∧ (0 : Int32).toNatClampNeg + v1.toNatClampNeg ≤ 10 ∧ (0 : Int32).toNatClampNeg + v1.toNatClampNeg ≤ 10) ∧ ∀ S2 : XS, S2 = xF S 32 (va_cpy (S.2.1 12) (S.2.1 32) (0 : Int32).toNatClampNeg (0 : Int32).toNatClampNeg v1.toNatClampNeg) → Post S2
set_option maxHeartbeats 4000000 in
set_option maxRecDepth 100000 in
theorem m_X11_copyRow_12_32 {l : Launch} {dC : Nat → ClassId} {dI : Nat → Nat → Nat} {q : Nat → Nat} {cI cT : ClassId} {en : Nat → Nat} {sz : Nat} {Post : XS → Prop} (S : XS) (h : VC_X11_copyRow_12_32 Post S) : Met l yX11_copyRow ww_X11_copyRow_12_32 ({ frames := 1, cells := 0, slots := 0, locals := 40 } : Room) (va_Pc [.ref (q 12), .ref (q 32)] (preX dC dI q cI cT en S sz)) (va_Qv Post (atX dC dI q cI cT (va_A (wX q cI cT S) sz)) (va_A (wX q cI cT S) sz)) 0 0 (va_A (wX q cI cT S) sz) := by
  refine oX (cc := cX11_copyRow) (maxL := 2) (ret := none) (Qc := fun A => va_Qv Post (atX dC dI q cI cT A) A) (own := RX11) (by decide) rfl (fun w h => List.mem_cons_of_mem _ (List.mem_append_right _ h)) rfl (Nat.le_of_ble_eq_true rfl) (fun p e s m below meth c A ls X hr hlocks hP hD hS hl => ?_)
  have hx := X.1
  have hb := X.2.1
  have hl : lv_has ls 2 [(0, .ref (q 12)), (1, .ref (q 32))] := hl
  dsimp only [VC_X11_copyRow_12_32] at h
  refine lv_aload_n hx hb (dk DX11_copyRow 0 rfl) rfl (lv_at hl 0 rfl) ?_
  refine lv_iconst (v := 0) hx hb (dk DX11_copyRow 1 rfl) (by decide) ?_
  refine lv_aload_n hx hb (dk DX11_copyRow 2 rfl) rfl (lv_at hl 1 rfl) ?_
  refine lv_iconst (v := 0) hx hb (dk DX11_copyRow 3 rfl) (by decide) ?_
  refine lv_aload_n hx hb (dk DX11_copyRow 4 rfl) rfl (lv_at hl 0 rfl) ?_
  refine alX_12 X hP (dk DX11_copyRow 5 rfl) ?_
  refine lv_aload_n hx hb (dk DX11_copyRow 6 rfl) rfl (lv_at hl 1 rfl) ?_
  refine alX_32 X hP (dk DX11_copyRow 7 rfl) ?_
  refine va_mmin hx hb (X.2.2.1.trans hl.1.symm) X.2.2.2.1 (X.2.2.2.2.1 (.methodLink RX11 309 Lib.Math.min.name) (inX 19 rfl)) (X.2.2.2.2.1 (.static Lib.Math.min.name) (inX 20 rfl)) (X.2.2.2.2.1 (.initialized "java/lang/Math") (inX 21 rfl)) (X.2.2.2.2.1 (.code Lib.Math.min.name Lib.Math.min.code 2 (some .int)) (inX 22 rfl)) (Nat.le_of_ble_eq_true rfl) (Nat.le_of_ble_eq_true rfl) (Nat.zero_le _) (Nat.zero_le _) (dk DX11_copyRow 8 rfl) ?_
  refine lv_topi (fun v1 ev1 => ?_)
  have h := h v1 ev1
  obtain ⟨hcp, h⟩ := h
  refine va_copyi hx hb (X.2.2.1.trans hl.1.symm) X.2.2.2.1 (X.2.2.2.2.1 (.methodLink RX11 320 arraycopyName) (inX 23 rfl)) (X.2.2.2.2.1 (.native arraycopyName) (inX 24 rfl)) (X.2.2.2.2.1 (.static arraycopyName) (inX 25 rfl)) (X.2.2.2.2.1 (.initialized "java/lang/System") (inX 26 rfl)) X.2.2.2.2.2.2.1 hP hD hS 12 32 0 0 (ty := .int) rfl rfl rfl rfl rfl hcp.1 hcp.2.1 hcp.2.2.1 hcp.2.2.2.1 hcp.2.2.2.2 (fun _ _ => rfl) (Nat.le_of_ble_eq_true rfl) (Nat.le_of_ble_eq_true rfl) (dk DX11_copyRow 9 rfl) (fun H locs hP hD hS => ?_)
  obtain ⟨S2, eS2⟩ : ∃ z : XS, z = xF S 32 (va_cpy (S.2.1 12) (S.2.1 32) (0 : Int32).toNatClampNeg (0 : Int32).toNatClampNeg v1.toNatClampNeg) := ⟨_, rfl⟩
  have hP : va_P (dC, dI) vwCl (wX q cI cT S2) H := by rw [eS2]; exact hP
  have hD : va_D A (wX q cI cT S2) := by rw [eS2]; exact hD
  have h := h S2 eS2
  exact W.vret hx hb hr (fun t ht hW => ⟨⟨_, rfl, h, by rw [ht]; exact hP, va_K.moved hW.alike X.2.2.2.2.2.2.1, hD⟩, hS.F ht⟩) hS.2.2 (dk DX11_copyRow 10 rfl)

def ww_X11_copyRow_13_33 : List Cond := .code yX11_copyRow cX11_copyRow 2 none :: (WdX ++ WsX)
theorem q_X11_copyRow_13_33 : yX11_copyRow.cls ≠ "java/lang/invoke/MethodHandle" ∧ yX11_copyRow.cls ≠ "java/lang/invoke/VarHandle" ∧ (parseMethodDescriptor yX11_copyRow.desc).map (fun d => d.parameters.length) = some 2 := by decide +kernel
def VC_X11_copyRow_13_33 (Post : XS → Prop) (S : XS) : Prop := ∀ v1 : Int32, v1 = (if (10 : Int32) < 10 then 10 else 10) → (¬ (0 : Int32) < 0 ∧ ¬ (0 : Int32) < 0 ∧ ¬ v1 < 0 ∧ (0 : Int32).toNatClampNeg + v1.toNatClampNeg ≤ 10 ∧ (0 : Int32).toNatClampNeg + v1.toNatClampNeg ≤ 10) ∧ ∀ S2 : XS, S2 = xF S 33 (va_cpy (S.2.1 13) (S.2.1 33) (0 : Int32).toNatClampNeg (0 : Int32).toNatClampNeg v1.toNatClampNeg) → Post S2
set_option maxHeartbeats 4000000 in
set_option maxRecDepth 100000 in
theorem m_X11_copyRow_13_33 {l : Launch} {dC : Nat → ClassId} {dI : Nat → Nat → Nat} {q : Nat → Nat} {cI cT : ClassId} {en : Nat → Nat} {sz : Nat} {Post : XS → Prop} (S : XS) (h : VC_X11_copyRow_13_33 Post S) : Met l yX11_copyRow ww_X11_copyRow_13_33 ({ frames := 1, cells := 0, slots := 0, locals := 40 } : Room) (va_Pc [.ref (q 13), .ref (q 33)] (preX dC dI q cI cT en S sz)) (va_Qv Post (atX dC dI q cI cT (va_A (wX q cI cT S) sz)) (va_A (wX q cI cT S) sz)) 0 0 (va_A (wX q cI cT S) sz) := by
  refine oX (cc := cX11_copyRow) (maxL := 2) (ret := none) (Qc := fun A => va_Qv Post (atX dC dI q cI cT A) A) (own := RX11) (by decide) rfl (fun w h => List.mem_cons_of_mem _ (List.mem_append_right _ h)) rfl (Nat.le_of_ble_eq_true rfl) (fun p e s m below meth c A ls X hr hlocks hP hD hS hl => ?_)
  have hx := X.1
  have hb := X.2.1
  have hl : lv_has ls 2 [(0, .ref (q 13)), (1, .ref (q 33))] := hl
  dsimp only [VC_X11_copyRow_13_33] at h
  refine lv_aload_n hx hb (dk DX11_copyRow 0 rfl) rfl (lv_at hl 0 rfl) ?_
  refine lv_iconst (v := 0) hx hb (dk DX11_copyRow 1 rfl) (by decide) ?_
  refine lv_aload_n hx hb (dk DX11_copyRow 2 rfl) rfl (lv_at hl 1 rfl) ?_
  refine lv_iconst (v := 0) hx hb (dk DX11_copyRow 3 rfl) (by decide) ?_
  refine lv_aload_n hx hb (dk DX11_copyRow 4 rfl) rfl (lv_at hl 0 rfl) ?_
  refine alX_13 X hP (dk DX11_copyRow 5 rfl) ?_
  refine lv_aload_n hx hb (dk DX11_copyRow 6 rfl) rfl (lv_at hl 1 rfl) ?_
  refine alX_33 X hP (dk DX11_copyRow 7 rfl) ?_
  refine va_mmin hx hb (X.2.2.1.trans hl.1.symm) X.2.2.2.1 (X.2.2.2.2.1 (.methodLink RX11 309 Lib.Math.min.name) (inX 19 rfl)) (X.2.2.2.2.1 (.static Lib.Math.min.name) (inX 20 rfl)) (X.2.2.2.2.1 (.initialized "java/lang/Math") (inX 21 rfl)) (X.2.2.2.2.1 (.code Lib.Math.min.name Lib.Math.min.code 2 (some .int)) (inX 22 rfl)) (Nat.le_of_ble_eq_true rfl) (Nat.le_of_ble_eq_true rfl) (Nat.zero_le _) (Nat.zero_le _) (dk DX11_copyRow 8 rfl) ?_
  refine lv_topi (fun v1 ev1 => ?_)
  have h := h v1 ev1
  obtain ⟨hcp, h⟩ := h
  refine va_copyi hx hb (X.2.2.1.trans hl.1.symm) X.2.2.2.1 (X.2.2.2.2.1 (.methodLink RX11 320 arraycopyName) (inX 23 rfl)) (X.2.2.2.2.1 (.native arraycopyName) (inX 24 rfl)) (X.2.2.2.2.1 (.static arraycopyName) (inX 25 rfl)) (X.2.2.2.2.1 (.initialized "java/lang/System") (inX 26 rfl)) X.2.2.2.2.2.2.1 hP hD hS 13 33 0 0 (ty := .int) rfl rfl rfl rfl rfl hcp.1 hcp.2.1 hcp.2.2.1 hcp.2.2.2.1 hcp.2.2.2.2 (fun _ _ => rfl) (Nat.le_of_ble_eq_true rfl) (Nat.le_of_ble_eq_true rfl) (dk DX11_copyRow 9 rfl) (fun H locs hP hD hS => ?_)
  obtain ⟨S2, eS2⟩ : ∃ z : XS, z = xF S 33 (va_cpy (S.2.1 13) (S.2.1 33) (0 : Int32).toNatClampNeg (0 : Int32).toNatClampNeg v1.toNatClampNeg) := ⟨_, rfl⟩
  have hP : va_P (dC, dI) vwCl (wX q cI cT S2) H := by rw [eS2]; exact hP
  have hD : va_D A (wX q cI cT S2) := by rw [eS2]; exact hD
  have h := h S2 eS2
  exact W.vret hx hb hr (fun t ht hW => ⟨⟨_, rfl, h, by rw [ht]; exact hP, va_K.moved hW.alike X.2.2.2.2.2.2.1, hD⟩, hS.F ht⟩) hS.2.2 (dk DX11_copyRow 10 rfl)

def ww_X11_copyRow_14_34 : List Cond := .code yX11_copyRow cX11_copyRow 2 none :: (WdX ++ WsX)
theorem q_X11_copyRow_14_34 : yX11_copyRow.cls ≠ "java/lang/invoke/MethodHandle" ∧ yX11_copyRow.cls ≠ "java/lang/invoke/VarHandle" ∧ (parseMethodDescriptor yX11_copyRow.desc).map (fun d => d.parameters.length) = some 2 := by decide +kernel
def VC_X11_copyRow_14_34 (Post : XS → Prop) (S : XS) : Prop := ∀ v1 : Int32, v1 = (if (160 : Int32) < 160 then 160 else 160) → (¬ (0 : Int32) < 0 ∧ ¬ (0 : Int32) < 0 ∧ ¬ v1 < 0 ∧ (0 : Int32).toNatClampNeg + v1.toNatClampNeg ≤ 160 ∧ (0 : Int32).toNatClampNeg + v1.toNatClampNeg ≤ 160) ∧ ∀ S2 : XS, S2 = xF S 34 (va_cpy (S.2.1 14) (S.2.1 34) (0 : Int32).toNatClampNeg (0 : Int32).toNatClampNeg v1.toNatClampNeg) → Post S2
set_option maxHeartbeats 4000000 in
set_option maxRecDepth 100000 in
theorem m_X11_copyRow_14_34 {l : Launch} {dC : Nat → ClassId} {dI : Nat → Nat → Nat} {q : Nat → Nat} {cI cT : ClassId} {en : Nat → Nat} {sz : Nat} {Post : XS → Prop} (S : XS) (h : VC_X11_copyRow_14_34 Post S) : Met l yX11_copyRow ww_X11_copyRow_14_34 ({ frames := 1, cells := 0, slots := 0, locals := 40 } : Room) (va_Pc [.ref (q 14), .ref (q 34)] (preX dC dI q cI cT en S sz)) (va_Qv Post (atX dC dI q cI cT (va_A (wX q cI cT S) sz)) (va_A (wX q cI cT S) sz)) 0 0 (va_A (wX q cI cT S) sz) := by
  refine oX (cc := cX11_copyRow) (maxL := 2) (ret := none) (Qc := fun A => va_Qv Post (atX dC dI q cI cT A) A) (own := RX11) (by decide) rfl (fun w h => List.mem_cons_of_mem _ (List.mem_append_right _ h)) rfl (Nat.le_of_ble_eq_true rfl) (fun p e s m below meth c A ls X hr hlocks hP hD hS hl => ?_)
  have hx := X.1
  have hb := X.2.1
  have hl : lv_has ls 2 [(0, .ref (q 14)), (1, .ref (q 34))] := hl
  dsimp only [VC_X11_copyRow_14_34] at h
  refine lv_aload_n hx hb (dk DX11_copyRow 0 rfl) rfl (lv_at hl 0 rfl) ?_
  refine lv_iconst (v := 0) hx hb (dk DX11_copyRow 1 rfl) (by decide) ?_
  refine lv_aload_n hx hb (dk DX11_copyRow 2 rfl) rfl (lv_at hl 1 rfl) ?_
  refine lv_iconst (v := 0) hx hb (dk DX11_copyRow 3 rfl) (by decide) ?_
  refine lv_aload_n hx hb (dk DX11_copyRow 4 rfl) rfl (lv_at hl 0 rfl) ?_
  refine alX_14 X hP (dk DX11_copyRow 5 rfl) ?_
  refine lv_aload_n hx hb (dk DX11_copyRow 6 rfl) rfl (lv_at hl 1 rfl) ?_
  refine alX_34 X hP (dk DX11_copyRow 7 rfl) ?_
  refine va_mmin hx hb (X.2.2.1.trans hl.1.symm) X.2.2.2.1 (X.2.2.2.2.1 (.methodLink RX11 309 Lib.Math.min.name) (inX 19 rfl)) (X.2.2.2.2.1 (.static Lib.Math.min.name) (inX 20 rfl)) (X.2.2.2.2.1 (.initialized "java/lang/Math") (inX 21 rfl)) (X.2.2.2.2.1 (.code Lib.Math.min.name Lib.Math.min.code 2 (some .int)) (inX 22 rfl)) (Nat.le_of_ble_eq_true rfl) (Nat.le_of_ble_eq_true rfl) (Nat.zero_le _) (Nat.zero_le _) (dk DX11_copyRow 8 rfl) ?_
  refine lv_topi (fun v1 ev1 => ?_)
  have h := h v1 ev1
  obtain ⟨hcp, h⟩ := h
  refine va_copyi hx hb (X.2.2.1.trans hl.1.symm) X.2.2.2.1 (X.2.2.2.2.1 (.methodLink RX11 320 arraycopyName) (inX 23 rfl)) (X.2.2.2.2.1 (.native arraycopyName) (inX 24 rfl)) (X.2.2.2.2.1 (.static arraycopyName) (inX 25 rfl)) (X.2.2.2.2.1 (.initialized "java/lang/System") (inX 26 rfl)) X.2.2.2.2.2.2.1 hP hD hS 14 34 0 0 (ty := .int) rfl rfl rfl rfl rfl hcp.1 hcp.2.1 hcp.2.2.1 hcp.2.2.2.1 hcp.2.2.2.2 (fun _ _ => rfl) (Nat.le_of_ble_eq_true rfl) (Nat.le_of_ble_eq_true rfl) (dk DX11_copyRow 9 rfl) (fun H locs hP hD hS => ?_)
  obtain ⟨S2, eS2⟩ : ∃ z : XS, z = xF S 34 (va_cpy (S.2.1 14) (S.2.1 34) (0 : Int32).toNatClampNeg (0 : Int32).toNatClampNeg v1.toNatClampNeg) := ⟨_, rfl⟩
  have hP : va_P (dC, dI) vwCl (wX q cI cT S2) H := by rw [eS2]; exact hP
  have hD : va_D A (wX q cI cT S2) := by rw [eS2]; exact hD
  have h := h S2 eS2
  exact W.vret hx hb hr (fun t ht hW => ⟨⟨_, rfl, h, by rw [ht]; exact hP, va_K.moved hW.alike X.2.2.2.2.2.2.1, hD⟩, hS.F ht⟩) hS.2.2 (dk DX11_copyRow 10 rfl)

def ww_X0_takeFrom_31_11 : List Cond := .code yX0_takeFrom cX0_takeFrom 2 none :: (WdX ++ WsX)
theorem q_X0_takeFrom_31_11 : yX0_takeFrom.cls = RX0 ∧ yX0_takeFrom.cls ≠ "java/lang/invoke/MethodHandle" ∧ yX0_takeFrom.cls ≠ "java/lang/invoke/VarHandle" ∧ (parseMethodDescriptor yX0_takeFrom.desc).map (fun d => d.parameters.length) = some 1 := by decide +kernel
def VC_X0_takeFrom_31_11 (Post : XS → Prop) (S : XS) : Prop := ∀ v1 : Int32, v1 = (S.1 352) → ∀ S2 : XS, S2 = xI S 992 v1 → ∀ v3 : Int32, v3 = (S2.1 353) → ∀ S4 : XS, S4 = xI S2 993 v3 → ∀ v5 : Int32, v5 = (S4.1 356) → ∀ S6 : XS, S6 = xI S4 996 v5 → VC_X11_copyRow_12_32 (fun S7 => VC_X11_copyRow_13_33 (fun S8 => VC_X11_copyRow_14_34 (fun S9 => Post S9) S8) S7) S6
set_option maxHeartbeats 4000000 in
set_option maxRecDepth 100000 in
theorem m_X0_takeFrom_31_11 {l : Launch} {dC : Nat → ClassId} {dI : Nat → Nat → Nat} {q : Nat → Nat} {cI cT : ClassId} {en : Nat → Nat} {sz : Nat} {Post : XS → Prop} (S : XS) (h : VC_X0_takeFrom_31_11 Post S) : Met l yX0_takeFrom ww_X0_takeFrom_31_11 ({ frames := 2, cells := 0, slots := 0, locals := 61 } : Room) (va_Pc [.ref (q 31), .ref (q 11)] (preX dC dI q cI cT en S sz)) (va_Qv Post (atX dC dI q cI cT (va_A (wX q cI cT S) sz)) (va_A (wX q cI cT S) sz)) 0 0 (va_A (wX q cI cT S) sz) := by
  refine oX (cc := cX0_takeFrom) (maxL := 2) (ret := none) (Qc := fun A => va_Qv Post (atX dC dI q cI cT A) A) (own := RX0) (by decide) rfl (fun w h => List.mem_cons_of_mem _ (List.mem_append_right _ h)) rfl (Nat.le_of_ble_eq_true rfl) (fun p e s m below meth c A ls X hr hlocks hP hD hS hl => ?_)
  have hx := X.1
  have hb := X.2.1
  have hl : lv_has ls 2 [(0, .ref (q 31)), (1, .ref (q 11))] := hl
  have lk28 := X.2.2.2.2.1 (.fieldLink RX0 28 "BreathOnLoan$Bench" "hour" "I") (inX 12 rfl)
  have lk21 := X.2.2.2.2.1 (.fieldLink RX0 21 "BreathOnLoan$Bench" "pieces" "I") (inX 9 rfl)
  have lk25 := X.2.2.2.2.1 (.fieldLink RX0 25 "BreathOnLoan$Bench" "bubbles" "I") (inX 11 rfl)
  have lk9 := X.2.2.2.2.1 (.fieldLink RX0 9 "BreathOnLoan$Bench" "kindOf" "[I") (inX 5 rfl)
  have lk15 := X.2.2.2.2.1 (.fieldLink RX0 15 "BreathOnLoan$Bench" "sold" "[I") (inX 6 rfl)
  have lk18 := X.2.2.2.2.1 (.fieldLink RX0 18 "BreathOnLoan$Bench" "log" "[I") (inX 7 rfl)
  dsimp only [VC_X0_takeFrom_31_11] at h
  refine lv_aload_n hx hb (dk DX0_takeFrom 0 rfl) rfl (lv_at hl 0 rfl) ?_
  refine lv_aload_n hx hb (dk DX0_takeFrom 1 rfl) rfl (lv_at hl 1 rfl) ?_
  refine gX_11 X hP 0 (by decide) rfl lk28 (dk DX0_takeFrom 2 rfl) ?_
  refine lv_topi (fun v1 ev1 => ?_)
  have h := h v1 ev1
  refine pX_31_0 X hP hD hS lk28 (dk DX0_takeFrom 3 rfl) (fun S2 eS2 H locs hP hD hS => ?_)
  have h := h S2 eS2
  refine lv_aload_n hx hb (dk DX0_takeFrom 4 rfl) rfl (lv_at hl 0 rfl) ?_
  refine lv_aload_n hx hb (dk DX0_takeFrom 5 rfl) rfl (lv_at hl 1 rfl) ?_
  refine gX_11 X hP 1 (by decide) rfl lk21 (dk DX0_takeFrom 6 rfl) ?_
  refine lv_topi (fun v3 ev3 => ?_)
  have h := h v3 ev3
  refine pX_31_1 X hP hD hS lk21 (dk DX0_takeFrom 7 rfl) (fun S4 eS4 H locs hP hD hS => ?_)
  have h := h S4 eS4
  refine lv_aload_n hx hb (dk DX0_takeFrom 8 rfl) rfl (lv_at hl 0 rfl) ?_
  refine lv_aload_n hx hb (dk DX0_takeFrom 9 rfl) rfl (lv_at hl 1 rfl) ?_
  refine gX_11 X hP 4 (by decide) rfl lk25 (dk DX0_takeFrom 10 rfl) ?_
  refine lv_topi (fun v5 ev5 => ?_)
  have h := h v5 ev5
  refine pX_31_4 X hP hD hS lk25 (dk DX0_takeFrom 11 rfl) (fun S6 eS6 H locs hP hD hS => ?_)
  have h := h S6 eS6
  refine lv_aload_n hx hb (dk DX0_takeFrom 12 rfl) rfl (lv_at hl 1 rfl) ?_
  refine gX_11 X hP 2 (by decide) rfl lk9 (dk DX0_takeFrom 13 rfl) ?_
  refine lv_aload_n hx hb (dk DX0_takeFrom 14 rfl) rfl (lv_at hl 0 rfl) ?_
  refine gX_31 X hP 2 (by decide) rfl lk9 (dk DX0_takeFrom 15 rfl) ?_
  refine cXnv (As := [.ref (q 12), .ref (q 32)]) (rest := []) X (m_X11_copyRow_12_32 (l := l) (dC := dC) (dI := dI) (q := q) (cI := cI) (cT := cT) (en := en) (sz := _) S6 h) ⟨va_cnB (host := "BreathOnLoan") 2 X.2.2.2.2.1 (gxB (List.mem_of_getElem? (i := 18) rfl)) rfl rfl rfl (X.2.2.2.2.2.2.2.2.1.1 _ (List.mem_of_getElem? (i := 7) rfl)) (X.2.2.2.2.1 (.initialized RX11) (inX 16 rfl)) q_X11_copyRow_12_32 ⟨Nat.le_of_ble_eq_true rfl, Nat.le_of_ble_eq_true rfl⟩, X.2.2.2.2.1 (.static yX11_copyRow) (inX 28 rfl), trivial⟩ hP hD hS rfl hl.1 rfl (Nat.le_of_ble_eq_true rfl) (dk DX0_takeFrom 16 rfl) (fun S7 H locs h hP hD hS => ?_)
  refine lv_aload_n hx hb (dk DX0_takeFrom 17 rfl) rfl (lv_at hl 1 rfl) ?_
  refine gX_11 X hP 3 (by decide) rfl lk15 (dk DX0_takeFrom 18 rfl) ?_
  refine lv_aload_n hx hb (dk DX0_takeFrom 19 rfl) rfl (lv_at hl 0 rfl) ?_
  refine gX_31 X hP 3 (by decide) rfl lk15 (dk DX0_takeFrom 20 rfl) ?_
  refine cXnv (As := [.ref (q 13), .ref (q 33)]) (rest := []) X (m_X11_copyRow_13_33 (l := l) (dC := dC) (dI := dI) (q := q) (cI := cI) (cT := cT) (en := en) (sz := _) S7 h) ⟨va_cnB (host := "BreathOnLoan") 2 X.2.2.2.2.1 (gxB (List.mem_of_getElem? (i := 18) rfl)) rfl rfl rfl (X.2.2.2.2.2.2.2.2.1.1 _ (List.mem_of_getElem? (i := 7) rfl)) (X.2.2.2.2.1 (.initialized RX11) (inX 16 rfl)) q_X11_copyRow_13_33 ⟨Nat.le_of_ble_eq_true rfl, Nat.le_of_ble_eq_true rfl⟩, X.2.2.2.2.1 (.static yX11_copyRow) (inX 28 rfl), trivial⟩ hP hD hS rfl hl.1 rfl (Nat.le_of_ble_eq_true rfl) (dk DX0_takeFrom 21 rfl) (fun S8 H locs h hP hD hS => ?_)
  refine lv_aload_n hx hb (dk DX0_takeFrom 22 rfl) rfl (lv_at hl 1 rfl) ?_
  refine gX_11 X hP 5 (by decide) rfl lk18 (dk DX0_takeFrom 23 rfl) ?_
  refine lv_aload_n hx hb (dk DX0_takeFrom 24 rfl) rfl (lv_at hl 0 rfl) ?_
  refine gX_31 X hP 5 (by decide) rfl lk18 (dk DX0_takeFrom 25 rfl) ?_
  refine cXnv (As := [.ref (q 14), .ref (q 34)]) (rest := []) X (m_X11_copyRow_14_34 (l := l) (dC := dC) (dI := dI) (q := q) (cI := cI) (cT := cT) (en := en) (sz := _) S8 h) ⟨va_cnB (host := "BreathOnLoan") 2 X.2.2.2.2.1 (gxB (List.mem_of_getElem? (i := 18) rfl)) rfl rfl rfl (X.2.2.2.2.2.2.2.2.1.1 _ (List.mem_of_getElem? (i := 7) rfl)) (X.2.2.2.2.1 (.initialized RX11) (inX 16 rfl)) q_X11_copyRow_14_34 ⟨Nat.le_of_ble_eq_true rfl, Nat.le_of_ble_eq_true rfl⟩, X.2.2.2.2.1 (.static yX11_copyRow) (inX 28 rfl), trivial⟩ hP hD hS rfl hl.1 rfl (Nat.le_of_ble_eq_true rfl) (dk DX0_takeFrom 26 rfl) (fun S9 H locs h hP hD hS => ?_)
  exact W.vret hx hb hr (fun t ht hW => ⟨⟨_, rfl, h, by rw [ht]; exact hP, va_K.moved hW.alike X.2.2.2.2.2.2.1, hD⟩, hS.F ht⟩) hS.2.2 (dk DX0_takeFrom 27 rfl)

def ww_X11_copyRow_16_36 : List Cond := .code yX11_copyRow cX11_copyRow 2 none :: (WdX ++ WsX)
theorem q_X11_copyRow_16_36 : yX11_copyRow.cls ≠ "java/lang/invoke/MethodHandle" ∧ yX11_copyRow.cls ≠ "java/lang/invoke/VarHandle" ∧ (parseMethodDescriptor yX11_copyRow.desc).map (fun d => d.parameters.length) = some 2 := by decide +kernel
def VC_X11_copyRow_16_36 (Post : XS → Prop) (S : XS) : Prop := ∀ v1 : Int32, v1 = (if (240 : Int32) < 240 then 240 else 240) → (¬ (0 : Int32) < 0 ∧ ¬ (0 : Int32) < 0 ∧ ¬ v1 < 0 ∧ (0 : Int32).toNatClampNeg + v1.toNatClampNeg ≤ 240 ∧ (0 : Int32).toNatClampNeg + v1.toNatClampNeg ≤ 240) ∧ ∀ S2 : XS, S2 = xF S 36 (va_cpy (S.2.1 16) (S.2.1 36) (0 : Int32).toNatClampNeg (0 : Int32).toNatClampNeg v1.toNatClampNeg) → Post S2
set_option maxHeartbeats 4000000 in
set_option maxRecDepth 100000 in
theorem m_X11_copyRow_16_36 {l : Launch} {dC : Nat → ClassId} {dI : Nat → Nat → Nat} {q : Nat → Nat} {cI cT : ClassId} {en : Nat → Nat} {sz : Nat} {Post : XS → Prop} (S : XS) (h : VC_X11_copyRow_16_36 Post S) : Met l yX11_copyRow ww_X11_copyRow_16_36 ({ frames := 1, cells := 0, slots := 0, locals := 40 } : Room) (va_Pc [.ref (q 16), .ref (q 36)] (preX dC dI q cI cT en S sz)) (va_Qv Post (atX dC dI q cI cT (va_A (wX q cI cT S) sz)) (va_A (wX q cI cT S) sz)) 0 0 (va_A (wX q cI cT S) sz) := by
  refine oX (cc := cX11_copyRow) (maxL := 2) (ret := none) (Qc := fun A => va_Qv Post (atX dC dI q cI cT A) A) (own := RX11) (by decide) rfl (fun w h => List.mem_cons_of_mem _ (List.mem_append_right _ h)) rfl (Nat.le_of_ble_eq_true rfl) (fun p e s m below meth c A ls X hr hlocks hP hD hS hl => ?_)
  have hx := X.1
  have hb := X.2.1
  have hl : lv_has ls 2 [(0, .ref (q 16)), (1, .ref (q 36))] := hl
  dsimp only [VC_X11_copyRow_16_36] at h
  refine lv_aload_n hx hb (dk DX11_copyRow 0 rfl) rfl (lv_at hl 0 rfl) ?_
  refine lv_iconst (v := 0) hx hb (dk DX11_copyRow 1 rfl) (by decide) ?_
  refine lv_aload_n hx hb (dk DX11_copyRow 2 rfl) rfl (lv_at hl 1 rfl) ?_
  refine lv_iconst (v := 0) hx hb (dk DX11_copyRow 3 rfl) (by decide) ?_
  refine lv_aload_n hx hb (dk DX11_copyRow 4 rfl) rfl (lv_at hl 0 rfl) ?_
  refine alX_16 X hP (dk DX11_copyRow 5 rfl) ?_
  refine lv_aload_n hx hb (dk DX11_copyRow 6 rfl) rfl (lv_at hl 1 rfl) ?_
  refine alX_36 X hP (dk DX11_copyRow 7 rfl) ?_
  refine va_mmin hx hb (X.2.2.1.trans hl.1.symm) X.2.2.2.1 (X.2.2.2.2.1 (.methodLink RX11 309 Lib.Math.min.name) (inX 19 rfl)) (X.2.2.2.2.1 (.static Lib.Math.min.name) (inX 20 rfl)) (X.2.2.2.2.1 (.initialized "java/lang/Math") (inX 21 rfl)) (X.2.2.2.2.1 (.code Lib.Math.min.name Lib.Math.min.code 2 (some .int)) (inX 22 rfl)) (Nat.le_of_ble_eq_true rfl) (Nat.le_of_ble_eq_true rfl) (Nat.zero_le _) (Nat.zero_le _) (dk DX11_copyRow 8 rfl) ?_
  refine lv_topi (fun v1 ev1 => ?_)
  have h := h v1 ev1
  obtain ⟨hcp, h⟩ := h
  refine va_copyi hx hb (X.2.2.1.trans hl.1.symm) X.2.2.2.1 (X.2.2.2.2.1 (.methodLink RX11 320 arraycopyName) (inX 23 rfl)) (X.2.2.2.2.1 (.native arraycopyName) (inX 24 rfl)) (X.2.2.2.2.1 (.static arraycopyName) (inX 25 rfl)) (X.2.2.2.2.1 (.initialized "java/lang/System") (inX 26 rfl)) X.2.2.2.2.2.2.1 hP hD hS 16 36 0 0 (ty := .int) rfl rfl rfl rfl rfl hcp.1 hcp.2.1 hcp.2.2.1 hcp.2.2.2.1 hcp.2.2.2.2 (fun _ _ => rfl) (Nat.le_of_ble_eq_true rfl) (Nat.le_of_ble_eq_true rfl) (dk DX11_copyRow 9 rfl) (fun H locs hP hD hS => ?_)
  obtain ⟨S2, eS2⟩ : ∃ z : XS, z = xF S 36 (va_cpy (S.2.1 16) (S.2.1 36) (0 : Int32).toNatClampNeg (0 : Int32).toNatClampNeg v1.toNatClampNeg) := ⟨_, rfl⟩
  have hP : va_P (dC, dI) vwCl (wX q cI cT S2) H := by rw [eS2]; exact hP
  have hD : va_D A (wX q cI cT S2) := by rw [eS2]; exact hD
  have h := h S2 eS2
  exact W.vret hx hb hr (fun t ht hW => ⟨⟨_, rfl, h, by rw [ht]; exact hP, va_K.moved hW.alike X.2.2.2.2.2.2.1, hD⟩, hS.F ht⟩) hS.2.2 (dk DX11_copyRow 10 rfl)

def ww_X6_takeFrom_35_15 : List Cond := .code yX6_takeFrom cX6_takeFrom 2 none :: (WdX ++ WsX)
theorem q_X6_takeFrom_35_15 : yX6_takeFrom.cls = RX6 ∧ yX6_takeFrom.cls ≠ "java/lang/invoke/MethodHandle" ∧ yX6_takeFrom.cls ≠ "java/lang/invoke/VarHandle" ∧ (parseMethodDescriptor yX6_takeFrom.desc).map (fun d => d.parameters.length) = some 1 := by decide +kernel
def VC_X6_takeFrom_35_15 (Post : XS → Prop) (S : XS) : Prop := ∀ v1 : Int32, v1 = (S.1 480) → ∀ S2 : XS, S2 = xI S 1120 v1 → ∀ v3 : Int32, v3 = (S2.1 481) → ∀ S4 : XS, S4 = xI S2 1121 v3 → VC_X11_copyRow_16_36 (fun S5 => Post S5) S4
set_option maxHeartbeats 4000000 in
set_option maxRecDepth 100000 in
theorem m_X6_takeFrom_35_15 {l : Launch} {dC : Nat → ClassId} {dI : Nat → Nat → Nat} {q : Nat → Nat} {cI cT : ClassId} {en : Nat → Nat} {sz : Nat} {Post : XS → Prop} (S : XS) (h : VC_X6_takeFrom_35_15 Post S) : Met l yX6_takeFrom ww_X6_takeFrom_35_15 ({ frames := 2, cells := 0, slots := 0, locals := 61 } : Room) (va_Pc [.ref (q 35), .ref (q 15)] (preX dC dI q cI cT en S sz)) (va_Qv Post (atX dC dI q cI cT (va_A (wX q cI cT S) sz)) (va_A (wX q cI cT S) sz)) 0 0 (va_A (wX q cI cT S) sz) := by
  refine oX (cc := cX6_takeFrom) (maxL := 2) (ret := none) (Qc := fun A => va_Qv Post (atX dC dI q cI cT A) A) (own := RX6) (by decide) rfl (fun w h => List.mem_cons_of_mem _ (List.mem_append_right _ h)) rfl (Nat.le_of_ble_eq_true rfl) (fun p e s m below meth c A ls X hr hlocks hP hD hS hl => ?_)
  have hx := X.1
  have hb := X.2.1
  have hl : lv_has ls 2 [(0, .ref (q 35)), (1, .ref (q 15))] := hl
  have lk19 := X.2.2.2.2.1 (.fieldLink RX6 19 "BreathOnLoan$Steps" "first" "I") (inX 523 rfl)
  have lk15 := X.2.2.2.2.1 (.fieldLink RX6 15 "BreathOnLoan$Steps" "count" "I") (inX 524 rfl)
  have lk11 := X.2.2.2.2.1 (.fieldLink RX6 11 "BreathOnLoan$Steps" "rows" "[I") (inX 480 rfl)
  dsimp only [VC_X6_takeFrom_35_15] at h
  refine lv_aload_n hx hb (dk DX6_takeFrom 0 rfl) rfl (lv_at hl 0 rfl) ?_
  refine lv_aload_n hx hb (dk DX6_takeFrom 1 rfl) rfl (lv_at hl 1 rfl) ?_
  refine gX_15 X hP 0 (by decide) rfl lk19 (dk DX6_takeFrom 2 rfl) ?_
  refine lv_topi (fun v1 ev1 => ?_)
  have h := h v1 ev1
  refine pX_35_0 X hP hD hS lk19 (dk DX6_takeFrom 3 rfl) (fun S2 eS2 H locs hP hD hS => ?_)
  have h := h S2 eS2
  refine lv_aload_n hx hb (dk DX6_takeFrom 4 rfl) rfl (lv_at hl 0 rfl) ?_
  refine lv_aload_n hx hb (dk DX6_takeFrom 5 rfl) rfl (lv_at hl 1 rfl) ?_
  refine gX_15 X hP 1 (by decide) rfl lk15 (dk DX6_takeFrom 6 rfl) ?_
  refine lv_topi (fun v3 ev3 => ?_)
  have h := h v3 ev3
  refine pX_35_1 X hP hD hS lk15 (dk DX6_takeFrom 7 rfl) (fun S4 eS4 H locs hP hD hS => ?_)
  have h := h S4 eS4
  refine lv_aload_n hx hb (dk DX6_takeFrom 8 rfl) rfl (lv_at hl 1 rfl) ?_
  refine gX_15 X hP 2 (by decide) rfl lk11 (dk DX6_takeFrom 9 rfl) ?_
  refine lv_aload_n hx hb (dk DX6_takeFrom 10 rfl) rfl (lv_at hl 0 rfl) ?_
  refine gX_35 X hP 2 (by decide) rfl lk11 (dk DX6_takeFrom 11 rfl) ?_
  refine cXnv (As := [.ref (q 16), .ref (q 36)]) (rest := []) X (m_X11_copyRow_16_36 (l := l) (dC := dC) (dI := dI) (q := q) (cI := cI) (cT := cT) (en := en) (sz := _) S4 h) ⟨va_cnB (host := "BreathOnLoan") 2 X.2.2.2.2.1 (gxB (List.mem_of_getElem? (i := 18) rfl)) rfl rfl rfl (X.2.2.2.2.2.2.2.2.1.1 _ (List.mem_of_getElem? (i := 8) rfl)) (X.2.2.2.2.1 (.initialized RX11) (inX 16 rfl)) q_X11_copyRow_16_36 ⟨Nat.le_of_ble_eq_true rfl, Nat.le_of_ble_eq_true rfl⟩, X.2.2.2.2.1 (.static yX11_copyRow) (inX 28 rfl), trivial⟩ hP hD hS rfl hl.1 rfl (Nat.le_of_ble_eq_true rfl) (dk DX6_takeFrom 12 rfl) (fun S5 H locs h hP hD hS => ?_)
  exact W.vret hx hb hr (fun t ht hW => ⟨⟨_, rfl, h, by rw [ht]; exact hP, va_K.moved hW.alike X.2.2.2.2.2.2.1, hD⟩, hS.F ht⟩) hS.2.2 (dk DX6_takeFrom 13 rfl)

def ww_X11_copyRow_18_38 : List Cond := .code yX11_copyRow cX11_copyRow 2 none :: (WdX ++ WsX)
theorem q_X11_copyRow_18_38 : yX11_copyRow.cls ≠ "java/lang/invoke/MethodHandle" ∧ yX11_copyRow.cls ≠ "java/lang/invoke/VarHandle" ∧ (parseMethodDescriptor yX11_copyRow.desc).map (fun d => d.parameters.length) = some 2 := by decide +kernel
def VC_X11_copyRow_18_38 (Post : XS → Prop) (S : XS) : Prop := ∀ v1 : Int32, v1 = (if (8 : Int32) < 8 then 8 else 8) → (¬ (0 : Int32) < 0 ∧ ¬ (0 : Int32) < 0 ∧ ¬ v1 < 0 ∧ (0 : Int32).toNatClampNeg + v1.toNatClampNeg ≤ 8 ∧ (0 : Int32).toNatClampNeg + v1.toNatClampNeg ≤ 8) ∧ ∀ S2 : XS, S2 = xF S 38 (va_cpy (S.2.1 18) (S.2.1 38) (0 : Int32).toNatClampNeg (0 : Int32).toNatClampNeg v1.toNatClampNeg) → Post S2
set_option maxHeartbeats 4000000 in
set_option maxRecDepth 100000 in
theorem m_X11_copyRow_18_38 {l : Launch} {dC : Nat → ClassId} {dI : Nat → Nat → Nat} {q : Nat → Nat} {cI cT : ClassId} {en : Nat → Nat} {sz : Nat} {Post : XS → Prop} (S : XS) (h : VC_X11_copyRow_18_38 Post S) : Met l yX11_copyRow ww_X11_copyRow_18_38 ({ frames := 1, cells := 0, slots := 0, locals := 40 } : Room) (va_Pc [.ref (q 18), .ref (q 38)] (preX dC dI q cI cT en S sz)) (va_Qv Post (atX dC dI q cI cT (va_A (wX q cI cT S) sz)) (va_A (wX q cI cT S) sz)) 0 0 (va_A (wX q cI cT S) sz) := by
  refine oX (cc := cX11_copyRow) (maxL := 2) (ret := none) (Qc := fun A => va_Qv Post (atX dC dI q cI cT A) A) (own := RX11) (by decide) rfl (fun w h => List.mem_cons_of_mem _ (List.mem_append_right _ h)) rfl (Nat.le_of_ble_eq_true rfl) (fun p e s m below meth c A ls X hr hlocks hP hD hS hl => ?_)
  have hx := X.1
  have hb := X.2.1
  have hl : lv_has ls 2 [(0, .ref (q 18)), (1, .ref (q 38))] := hl
  dsimp only [VC_X11_copyRow_18_38] at h
  refine lv_aload_n hx hb (dk DX11_copyRow 0 rfl) rfl (lv_at hl 0 rfl) ?_
  refine lv_iconst (v := 0) hx hb (dk DX11_copyRow 1 rfl) (by decide) ?_
  refine lv_aload_n hx hb (dk DX11_copyRow 2 rfl) rfl (lv_at hl 1 rfl) ?_
  refine lv_iconst (v := 0) hx hb (dk DX11_copyRow 3 rfl) (by decide) ?_
  refine lv_aload_n hx hb (dk DX11_copyRow 4 rfl) rfl (lv_at hl 0 rfl) ?_
  refine alX_18 X hP (dk DX11_copyRow 5 rfl) ?_
  refine lv_aload_n hx hb (dk DX11_copyRow 6 rfl) rfl (lv_at hl 1 rfl) ?_
  refine alX_38 X hP (dk DX11_copyRow 7 rfl) ?_
  refine va_mmin hx hb (X.2.2.1.trans hl.1.symm) X.2.2.2.1 (X.2.2.2.2.1 (.methodLink RX11 309 Lib.Math.min.name) (inX 19 rfl)) (X.2.2.2.2.1 (.static Lib.Math.min.name) (inX 20 rfl)) (X.2.2.2.2.1 (.initialized "java/lang/Math") (inX 21 rfl)) (X.2.2.2.2.1 (.code Lib.Math.min.name Lib.Math.min.code 2 (some .int)) (inX 22 rfl)) (Nat.le_of_ble_eq_true rfl) (Nat.le_of_ble_eq_true rfl) (Nat.zero_le _) (Nat.zero_le _) (dk DX11_copyRow 8 rfl) ?_
  refine lv_topi (fun v1 ev1 => ?_)
  have h := h v1 ev1
  obtain ⟨hcp, h⟩ := h
  refine va_copyi hx hb (X.2.2.1.trans hl.1.symm) X.2.2.2.1 (X.2.2.2.2.1 (.methodLink RX11 320 arraycopyName) (inX 23 rfl)) (X.2.2.2.2.1 (.native arraycopyName) (inX 24 rfl)) (X.2.2.2.2.1 (.static arraycopyName) (inX 25 rfl)) (X.2.2.2.2.1 (.initialized "java/lang/System") (inX 26 rfl)) X.2.2.2.2.2.2.1 hP hD hS 18 38 0 0 (ty := .int) rfl rfl rfl rfl rfl hcp.1 hcp.2.1 hcp.2.2.1 hcp.2.2.2.1 hcp.2.2.2.2 (fun _ _ => rfl) (Nat.le_of_ble_eq_true rfl) (Nat.le_of_ble_eq_true rfl) (dk DX11_copyRow 9 rfl) (fun H locs hP hD hS => ?_)
  obtain ⟨S2, eS2⟩ : ∃ z : XS, z = xF S 38 (va_cpy (S.2.1 18) (S.2.1 38) (0 : Int32).toNatClampNeg (0 : Int32).toNatClampNeg v1.toNatClampNeg) := ⟨_, rfl⟩
  have hP : va_P (dC, dI) vwCl (wX q cI cT S2) H := by rw [eS2]; exact hP
  have hD : va_D A (wX q cI cT S2) := by rw [eS2]; exact hD
  have h := h S2 eS2
  exact W.vret hx hb hr (fun t ht hW => ⟨⟨_, rfl, h, by rw [ht]; exact hP, va_K.moved hW.alike X.2.2.2.2.2.2.1, hD⟩, hS.F ht⟩) hS.2.2 (dk DX11_copyRow 10 rfl)

def ww_X11_copyRow_19_39 : List Cond := .code yX11_copyRow cX11_copyRow 2 none :: (WdX ++ WsX)
theorem q_X11_copyRow_19_39 : yX11_copyRow.cls ≠ "java/lang/invoke/MethodHandle" ∧ yX11_copyRow.cls ≠ "java/lang/invoke/VarHandle" ∧ (parseMethodDescriptor yX11_copyRow.desc).map (fun d => d.parameters.length) = some 2 := by decide +kernel
def VC_X11_copyRow_19_39 (Post : XS → Prop) (S : XS) : Prop := ∀ v1 : Int32, v1 = (if (80 : Int32) < 80 then 80 else 80) → (¬ (0 : Int32) < 0 ∧ ¬ (0 : Int32) < 0 ∧ ¬ v1 < 0 ∧ (0 : Int32).toNatClampNeg + v1.toNatClampNeg ≤ 80 ∧ (0 : Int32).toNatClampNeg + v1.toNatClampNeg ≤ 80) ∧ ∀ S2 : XS, S2 = xF S 39 (va_cpy (S.2.1 19) (S.2.1 39) (0 : Int32).toNatClampNeg (0 : Int32).toNatClampNeg v1.toNatClampNeg) → Post S2
set_option maxHeartbeats 4000000 in
set_option maxRecDepth 100000 in
theorem m_X11_copyRow_19_39 {l : Launch} {dC : Nat → ClassId} {dI : Nat → Nat → Nat} {q : Nat → Nat} {cI cT : ClassId} {en : Nat → Nat} {sz : Nat} {Post : XS → Prop} (S : XS) (h : VC_X11_copyRow_19_39 Post S) : Met l yX11_copyRow ww_X11_copyRow_19_39 ({ frames := 1, cells := 0, slots := 0, locals := 40 } : Room) (va_Pc [.ref (q 19), .ref (q 39)] (preX dC dI q cI cT en S sz)) (va_Qv Post (atX dC dI q cI cT (va_A (wX q cI cT S) sz)) (va_A (wX q cI cT S) sz)) 0 0 (va_A (wX q cI cT S) sz) := by
  refine oX (cc := cX11_copyRow) (maxL := 2) (ret := none) (Qc := fun A => va_Qv Post (atX dC dI q cI cT A) A) (own := RX11) (by decide) rfl (fun w h => List.mem_cons_of_mem _ (List.mem_append_right _ h)) rfl (Nat.le_of_ble_eq_true rfl) (fun p e s m below meth c A ls X hr hlocks hP hD hS hl => ?_)
  have hx := X.1
  have hb := X.2.1
  have hl : lv_has ls 2 [(0, .ref (q 19)), (1, .ref (q 39))] := hl
  dsimp only [VC_X11_copyRow_19_39] at h
  refine lv_aload_n hx hb (dk DX11_copyRow 0 rfl) rfl (lv_at hl 0 rfl) ?_
  refine lv_iconst (v := 0) hx hb (dk DX11_copyRow 1 rfl) (by decide) ?_
  refine lv_aload_n hx hb (dk DX11_copyRow 2 rfl) rfl (lv_at hl 1 rfl) ?_
  refine lv_iconst (v := 0) hx hb (dk DX11_copyRow 3 rfl) (by decide) ?_
  refine lv_aload_n hx hb (dk DX11_copyRow 4 rfl) rfl (lv_at hl 0 rfl) ?_
  refine alX_19 X hP (dk DX11_copyRow 5 rfl) ?_
  refine lv_aload_n hx hb (dk DX11_copyRow 6 rfl) rfl (lv_at hl 1 rfl) ?_
  refine alX_39 X hP (dk DX11_copyRow 7 rfl) ?_
  refine va_mmin hx hb (X.2.2.1.trans hl.1.symm) X.2.2.2.1 (X.2.2.2.2.1 (.methodLink RX11 309 Lib.Math.min.name) (inX 19 rfl)) (X.2.2.2.2.1 (.static Lib.Math.min.name) (inX 20 rfl)) (X.2.2.2.2.1 (.initialized "java/lang/Math") (inX 21 rfl)) (X.2.2.2.2.1 (.code Lib.Math.min.name Lib.Math.min.code 2 (some .int)) (inX 22 rfl)) (Nat.le_of_ble_eq_true rfl) (Nat.le_of_ble_eq_true rfl) (Nat.zero_le _) (Nat.zero_le _) (dk DX11_copyRow 8 rfl) ?_
  refine lv_topi (fun v1 ev1 => ?_)
  have h := h v1 ev1
  obtain ⟨hcp, h⟩ := h
  refine va_copyi hx hb (X.2.2.1.trans hl.1.symm) X.2.2.2.1 (X.2.2.2.2.1 (.methodLink RX11 320 arraycopyName) (inX 23 rfl)) (X.2.2.2.2.1 (.native arraycopyName) (inX 24 rfl)) (X.2.2.2.2.1 (.static arraycopyName) (inX 25 rfl)) (X.2.2.2.2.1 (.initialized "java/lang/System") (inX 26 rfl)) X.2.2.2.2.2.2.1 hP hD hS 19 39 0 0 (ty := .int) rfl rfl rfl rfl rfl hcp.1 hcp.2.1 hcp.2.2.1 hcp.2.2.2.1 hcp.2.2.2.2 (fun _ _ => rfl) (Nat.le_of_ble_eq_true rfl) (Nat.le_of_ble_eq_true rfl) (dk DX11_copyRow 9 rfl) (fun H locs hP hD hS => ?_)
  obtain ⟨S2, eS2⟩ : ∃ z : XS, z = xF S 39 (va_cpy (S.2.1 19) (S.2.1 39) (0 : Int32).toNatClampNeg (0 : Int32).toNatClampNeg v1.toNatClampNeg) := ⟨_, rfl⟩
  have hP : va_P (dC, dI) vwCl (wX q cI cT S2) H := by rw [eS2]; exact hP
  have hD : va_D A (wX q cI cT S2) := by rw [eS2]; exact hD
  have h := h S2 eS2
  exact W.vret hx hb hr (fun t ht hW => ⟨⟨_, rfl, h, by rw [ht]; exact hP, va_K.moved hW.alike X.2.2.2.2.2.2.1, hD⟩, hS.F ht⟩) hS.2.2 (dk DX11_copyRow 10 rfl)

def ww_X7_takeFrom_37_17 : List Cond := .code yX7_takeFrom cX7_takeFrom 2 none :: (WdX ++ WsX)
theorem q_X7_takeFrom_37_17 : yX7_takeFrom.cls = RX7 ∧ yX7_takeFrom.cls ≠ "java/lang/invoke/MethodHandle" ∧ yX7_takeFrom.cls ≠ "java/lang/invoke/VarHandle" ∧ (parseMethodDescriptor yX7_takeFrom.desc).map (fun d => d.parameters.length) = some 1 := by decide +kernel
def VC_X7_takeFrom_37_17 (Post : XS → Prop) (S : XS) : Prop := ∀ v1 : Int32, v1 = (S.1 544) → ∀ S2 : XS, S2 = xI S 1184 v1 → ∀ v3 : Int32, v3 = (S2.1 546) → ∀ S4 : XS, S4 = xI S2 1186 v3 → VC_X11_copyRow_18_38 (fun S5 => VC_X11_copyRow_19_39 (fun S6 => Post S6) S5) S4
set_option maxHeartbeats 4000000 in
set_option maxRecDepth 100000 in
theorem m_X7_takeFrom_37_17 {l : Launch} {dC : Nat → ClassId} {dI : Nat → Nat → Nat} {q : Nat → Nat} {cI cT : ClassId} {en : Nat → Nat} {sz : Nat} {Post : XS → Prop} (S : XS) (h : VC_X7_takeFrom_37_17 Post S) : Met l yX7_takeFrom ww_X7_takeFrom_37_17 ({ frames := 2, cells := 0, slots := 0, locals := 61 } : Room) (va_Pc [.ref (q 37), .ref (q 17)] (preX dC dI q cI cT en S sz)) (va_Qv Post (atX dC dI q cI cT (va_A (wX q cI cT S) sz)) (va_A (wX q cI cT S) sz)) 0 0 (va_A (wX q cI cT S) sz) := by
  refine oX (cc := cX7_takeFrom) (maxL := 2) (ret := none) (Qc := fun A => va_Qv Post (atX dC dI q cI cT A) A) (own := RX7) (by decide) rfl (fun w h => List.mem_cons_of_mem _ (List.mem_append_right _ h)) rfl (Nat.le_of_ble_eq_true rfl) (fun p e s m below meth c A ls X hr hlocks hP hD hS hl => ?_)
  have hx := X.1
  have hb := X.2.1
  have hl : lv_has ls 2 [(0, .ref (q 37)), (1, .ref (q 17))] := hl
  have lk18 := X.2.2.2.2.1 (.fieldLink RX7 18 "BreathOnLoan$Talk" "seenCount" "I") (inX 526 rfl)
  have lk32 := X.2.2.2.2.1 (.fieldLink RX7 32 "BreathOnLoan$Talk" "toldCount" "I") (inX 527 rfl)
  have lk9 := X.2.2.2.2.1 (.fieldLink RX7 9 "BreathOnLoan$Talk" "breathsSeen" "[I") (inX 483 rfl)
  have lk15 := X.2.2.2.2.1 (.fieldLink RX7 15 "BreathOnLoan$Talk" "told" "[I") (inX 484 rfl)
  dsimp only [VC_X7_takeFrom_37_17] at h
  refine lv_aload_n hx hb (dk DX7_takeFrom 0 rfl) rfl (lv_at hl 0 rfl) ?_
  refine lv_aload_n hx hb (dk DX7_takeFrom 1 rfl) rfl (lv_at hl 1 rfl) ?_
  refine gX_17 X hP 0 (by decide) rfl lk18 (dk DX7_takeFrom 2 rfl) ?_
  refine lv_topi (fun v1 ev1 => ?_)
  have h := h v1 ev1
  refine pX_37_0 X hP hD hS lk18 (dk DX7_takeFrom 3 rfl) (fun S2 eS2 H locs hP hD hS => ?_)
  have h := h S2 eS2
  refine lv_aload_n hx hb (dk DX7_takeFrom 4 rfl) rfl (lv_at hl 0 rfl) ?_
  refine lv_aload_n hx hb (dk DX7_takeFrom 5 rfl) rfl (lv_at hl 1 rfl) ?_
  refine gX_17 X hP 2 (by decide) rfl lk32 (dk DX7_takeFrom 6 rfl) ?_
  refine lv_topi (fun v3 ev3 => ?_)
  have h := h v3 ev3
  refine pX_37_2 X hP hD hS lk32 (dk DX7_takeFrom 7 rfl) (fun S4 eS4 H locs hP hD hS => ?_)
  have h := h S4 eS4
  refine lv_aload_n hx hb (dk DX7_takeFrom 8 rfl) rfl (lv_at hl 1 rfl) ?_
  refine gX_17 X hP 1 (by decide) rfl lk9 (dk DX7_takeFrom 9 rfl) ?_
  refine lv_aload_n hx hb (dk DX7_takeFrom 10 rfl) rfl (lv_at hl 0 rfl) ?_
  refine gX_37 X hP 1 (by decide) rfl lk9 (dk DX7_takeFrom 11 rfl) ?_
  refine cXnv (As := [.ref (q 18), .ref (q 38)]) (rest := []) X (m_X11_copyRow_18_38 (l := l) (dC := dC) (dI := dI) (q := q) (cI := cI) (cT := cT) (en := en) (sz := _) S4 h) ⟨va_cnB (host := "BreathOnLoan") 2 X.2.2.2.2.1 (gxB (List.mem_of_getElem? (i := 18) rfl)) rfl rfl rfl (X.2.2.2.2.2.2.2.2.1.1 _ (List.mem_of_getElem? (i := 9) rfl)) (X.2.2.2.2.1 (.initialized RX11) (inX 16 rfl)) q_X11_copyRow_18_38 ⟨Nat.le_of_ble_eq_true rfl, Nat.le_of_ble_eq_true rfl⟩, X.2.2.2.2.1 (.static yX11_copyRow) (inX 28 rfl), trivial⟩ hP hD hS rfl hl.1 rfl (Nat.le_of_ble_eq_true rfl) (dk DX7_takeFrom 12 rfl) (fun S5 H locs h hP hD hS => ?_)
  refine lv_aload_n hx hb (dk DX7_takeFrom 13 rfl) rfl (lv_at hl 1 rfl) ?_
  refine gX_17 X hP 3 (by decide) rfl lk15 (dk DX7_takeFrom 14 rfl) ?_
  refine lv_aload_n hx hb (dk DX7_takeFrom 15 rfl) rfl (lv_at hl 0 rfl) ?_
  refine gX_37 X hP 3 (by decide) rfl lk15 (dk DX7_takeFrom 16 rfl) ?_
  refine cXnv (As := [.ref (q 19), .ref (q 39)]) (rest := []) X (m_X11_copyRow_19_39 (l := l) (dC := dC) (dI := dI) (q := q) (cI := cI) (cT := cT) (en := en) (sz := _) S5 h) ⟨va_cnB (host := "BreathOnLoan") 2 X.2.2.2.2.1 (gxB (List.mem_of_getElem? (i := 18) rfl)) rfl rfl rfl (X.2.2.2.2.2.2.2.2.1.1 _ (List.mem_of_getElem? (i := 9) rfl)) (X.2.2.2.2.1 (.initialized RX11) (inX 16 rfl)) q_X11_copyRow_19_39 ⟨Nat.le_of_ble_eq_true rfl, Nat.le_of_ble_eq_true rfl⟩, X.2.2.2.2.1 (.static yX11_copyRow) (inX 28 rfl), trivial⟩ hP hD hS rfl hl.1 rfl (Nat.le_of_ble_eq_true rfl) (dk DX7_takeFrom 17 rfl) (fun S6 H locs h hP hD hS => ?_)
  exact W.vret hx hb hr (fun t ht hW => ⟨⟨_, rfl, h, by rw [ht]; exact hP, va_K.moved hW.alike X.2.2.2.2.2.2.1, hD⟩, hS.F ht⟩) hS.2.2 (dk DX7_takeFrom 18 rfl)

