-- X3_parseDeed_43 GROUP0 X3_parseSum_43 X3_parseProduct_43 X3_parseOne_43
def ww_X3_parseDeed_43 : List Cond := .code yX3_parseDeed cX3_parseDeed 3 none :: (WdX ++ WsX)
theorem q_X3_parseDeed_43 : yX3_parseDeed.cls = RX3 ∧ yX3_parseDeed.cls ≠ "java/lang/invoke/MethodHandle" ∧ yX3_parseDeed.cls ≠ "java/lang/invoke/VarHandle" ∧ (parseMethodDescriptor yX3_parseDeed.desc).map (fun d => d.parameters.length) = some 2 := by decide +kernel
def VC_X3_parseDeed_43 (Post : XS → Prop) (a0 : Int32) (a1 : Int32) (S : XS) : Prop := ((a0 = 36 → VC_X3_number_43 (fun r2 S1 => vp_in (a1 + 1) 96 ∧ ∀ S3 : XS, S3 = xF S1 47 (upd (S1.2.1 47) (a1 + 1).toNatClampNeg r2) → Post S3) 0 5 S) ∧ (a0 = 37 → VC_X3_number_43 (fun r5 S4 => vp_in (a1 + 1) 96 ∧ ∀ S6 : XS, S6 = xF S4 47 (upd (S4.2.1 47) (a1 + 1).toNatClampNeg r5) → VC_X3_expect_43 (fun S7 => VC_X3_number_43 (fun r9 S8 => vp_in (a1 + 2) 96 ∧ ∀ S10 : XS, S10 = xF S8 47 (upd (S8.2.1 47) (a1 + 2).toNatClampNeg r9) → VC_X3_expect_43 (fun S11 => VC_X3_number_43 (fun r13 S12 => vp_in (a1 + 3) 96 ∧ ∀ S14 : XS, S14 = xF S12 47 (upd (S12.2.1 47) (a1 + 3).toNatClampNeg r13) → Post S14) 1 9 S11) 40 S10) 0 5 S7) 39 S6) 0 9 S) ∧ (¬ a0 = 36 → ¬ a0 = 37 → VC_X3_number_43 (fun r16 S15 => vp_in (a1 + 1) 96 ∧ ∀ S17 : XS, S17 = xF S15 47 (upd (S15.2.1 47) (a1 + 1).toNatClampNeg r16) → Post S17) 1 99 S))
set_option maxHeartbeats 4000000 in
set_option maxRecDepth 100000 in
theorem m_X3_parseDeed_43 {l : Launch} {dC : Nat → ClassId} {dI : Nat → Nat → Nat} {q : Nat → Nat} {cI cT : ClassId} {en : Nat → Nat} {sz : Nat} {Post : XS → Prop} (a0 : Int32) (a1 : Int32) (S : XS) (h : VC_X3_parseDeed_43 Post a0 a1 S) : Met l yX3_parseDeed ww_X3_parseDeed_43 ({ frames := 8, cells := 0, slots := 0, locals := 175 } : Room) (va_Pc [.ref (q 43), .int a0, .int a1] (preX dC dI q cI cT en S sz)) (va_Qv Post (atX dC dI q cI cT (va_A (wX q cI cT S) sz)) (va_A (wX q cI cT S) sz)) 0 0 (va_A (wX q cI cT S) sz) := by
  refine oX (cc := cX3_parseDeed) (maxL := 3) (ret := none) (Qc := fun A => va_Qv Post (atX dC dI q cI cT A) A) (own := RX3) (by decide) rfl (fun w h => List.mem_cons_of_mem _ (List.mem_append_right _ h)) rfl (Nat.le_of_ble_eq_true rfl) (fun p e s m below meth c A ls X hr hlocks hP hD hS hl => ?_)
  have hx := X.1
  have hb := X.2.1
  have hl : lv_has ls 3 [(0, .ref (q 43)), (1, .int a0), (2, .int a1)] := hl
  have lk25 := X.2.2.2.2.1 (.fieldLink RX3 25 "BreathOnLoan$Parser" "rows" "[I") (inX 173 rfl)
  dsimp only [VC_X3_parseDeed_43] at h
  refine lv_iload_n hx hb (dk DX3_parseDeed 0 rfl) rfl (lv_at hl 1 rfl) ?_
  by_cases hc36 : a0 = 36
  · have h := h.1 hc36
    refine lv_lookup (off := 27) (tgt := 28) hx hb (dk DX3_parseDeed 1 rfl) (by decide) (by rw [hc36]; decide) (by decide) ?_
    refine lv_aload_n hx hb (dk DX3_parseDeed 2 rfl) rfl (lv_at hl 0 rfl) ?_
    refine gX_43 X hP 15 (by decide) rfl lk25 (dk DX3_parseDeed 3 rfl) ?_
    refine lv_iload_n hx hb (dk DX3_parseDeed 4 rfl) rfl (lv_at hl 2 rfl) ?_
    refine lv_iconst (v := 1) hx hb (dk DX3_parseDeed 5 rfl) (by decide) ?_
    refine lv_iadd hx hb (dk DX3_parseDeed 6 rfl) ?_
    refine lv_aload_n hx hb (dk DX3_parseDeed 7 rfl) rfl (lv_at hl 0 rfl) ?_
    refine lv_iconst (v := 0) hx hb (dk DX3_parseDeed 8 rfl) (by decide) ?_
    refine lv_iconst (v := 5) hx hb (dk DX3_parseDeed 9 rfl) (by decide) ?_
    refine cXi (As := [.int 0, .int 5]) (rest := [.int (a1 + 1), .ref (q 47)]) X (m_X3_number_43 (l := l) (dC := dC) (dI := dI) (q := q) (cI := cI) (cT := cT) (en := en) (sz := _) 0 5 S h) (cwV 2 X.2.2.2.2.1 (gxV 359 360 361 231 328 rfl rfl rfl rfl rfl) rfl rfl rfl q_X3_number_43 ⟨Nat.le_of_ble_eq_true rfl, Nat.le_of_ble_eq_true rfl⟩) (rX_43 X hP) hP hD hS rfl hl.1 rfl (Nat.le_of_ble_eq_true rfl) (dk DX3_parseDeed 10 rfl) (fun r2 S1 H locs h hP hD hS => ?_)
    obtain ⟨hin, h⟩ := h
    refine stX_47 X hP hD hS hin (dk DX3_parseDeed 11 rfl) (fun S3 eS3 H locs hP hD hS => ?_)
    have h := h S3 eS3
    refine lv_goto (tgt := 119) hx hb (dk DX3_parseDeed 12 rfl) (by decide) ?_
    exact W.vret hx hb hr (fun t ht hW => ⟨⟨_, rfl, h, by rw [ht]; exact hP, va_K.moved hW.alike X.2.2.2.2.2.2.1, hD⟩, hS.F ht⟩) hS.2.2 (dk DX3_parseDeed 60 rfl)
  have h := h.2
  by_cases hc37 : a0 = 37
  · have h := h.1 hc37
    refine lv_lookup (off := 44) (tgt := 45) hx hb (dk DX3_parseDeed 1 rfl) (by decide) (by rw [hc37]; decide) (by decide) ?_
    refine lv_aload_n hx hb (dk DX3_parseDeed 13 rfl) rfl (lv_at hl 0 rfl) ?_
    refine gX_43 X hP 15 (by decide) rfl lk25 (dk DX3_parseDeed 14 rfl) ?_
    refine lv_iload_n hx hb (dk DX3_parseDeed 15 rfl) rfl (lv_at hl 2 rfl) ?_
    refine lv_iconst (v := 1) hx hb (dk DX3_parseDeed 16 rfl) (by decide) ?_
    refine lv_iadd hx hb (dk DX3_parseDeed 17 rfl) ?_
    refine lv_aload_n hx hb (dk DX3_parseDeed 18 rfl) rfl (lv_at hl 0 rfl) ?_
    refine lv_iconst (v := 0) hx hb (dk DX3_parseDeed 19 rfl) (by decide) ?_
    refine lv_bipush (v := 9) hx hb (dk DX3_parseDeed 20 rfl) (by decide) ?_
    refine cXi (As := [.int 0, .int 9]) (rest := [.int (a1 + 1), .ref (q 47)]) X (m_X3_number_43 (l := l) (dC := dC) (dI := dI) (q := q) (cI := cI) (cT := cT) (en := en) (sz := _) 0 9 S h) (cwV 2 X.2.2.2.2.1 (gxV 359 360 361 231 328 rfl rfl rfl rfl rfl) rfl rfl rfl q_X3_number_43 ⟨Nat.le_of_ble_eq_true rfl, Nat.le_of_ble_eq_true rfl⟩) (rX_43 X hP) hP hD hS rfl hl.1 rfl (Nat.le_of_ble_eq_true rfl) (dk DX3_parseDeed 21 rfl) (fun r5 S4 H locs h hP hD hS => ?_)
    obtain ⟨hin, h⟩ := h
    refine stX_47 X hP hD hS hin (dk DX3_parseDeed 22 rfl) (fun S6 eS6 H locs hP hD hS => ?_)
    have h := h S6 eS6
    refine lv_aload_n hx hb (dk DX3_parseDeed 23 rfl) rfl (lv_at hl 0 rfl) ?_
    refine lv_bipush (v := 39) hx hb (dk DX3_parseDeed 24 rfl) (by decide) ?_
    refine cXv (As := [.int 39]) (rest := []) X (m_X3_expect_43 (l := l) (dC := dC) (dI := dI) (q := q) (cI := cI) (cT := cT) (en := en) (sz := _) 39 S6 h) (cwV 1 X.2.2.2.2.1 (gxV 348 349 350 231 325 rfl rfl rfl rfl rfl) rfl rfl rfl q_X3_expect_43 ⟨Nat.le_of_ble_eq_true rfl, Nat.le_of_ble_eq_true rfl⟩) (rX_43 X hP) hP hD hS rfl hl.1 rfl (Nat.le_of_ble_eq_true rfl) (dk DX3_parseDeed 25 rfl) (fun S7 H locs h hP hD hS => ?_)
    refine lv_aload_n hx hb (dk DX3_parseDeed 26 rfl) rfl (lv_at hl 0 rfl) ?_
    refine gX_43 X hP 15 (by decide) rfl lk25 (dk DX3_parseDeed 27 rfl) ?_
    refine lv_iload_n hx hb (dk DX3_parseDeed 28 rfl) rfl (lv_at hl 2 rfl) ?_
    refine lv_iconst (v := 2) hx hb (dk DX3_parseDeed 29 rfl) (by decide) ?_
    refine lv_iadd hx hb (dk DX3_parseDeed 30 rfl) ?_
    refine lv_aload_n hx hb (dk DX3_parseDeed 31 rfl) rfl (lv_at hl 0 rfl) ?_
    refine lv_iconst (v := 0) hx hb (dk DX3_parseDeed 32 rfl) (by decide) ?_
    refine lv_iconst (v := 5) hx hb (dk DX3_parseDeed 33 rfl) (by decide) ?_
    refine cXi (As := [.int 0, .int 5]) (rest := [.int (a1 + 2), .ref (q 47)]) X (m_X3_number_43 (l := l) (dC := dC) (dI := dI) (q := q) (cI := cI) (cT := cT) (en := en) (sz := _) 0 5 S7 h) (cwV 2 X.2.2.2.2.1 (gxV 359 360 361 231 328 rfl rfl rfl rfl rfl) rfl rfl rfl q_X3_number_43 ⟨Nat.le_of_ble_eq_true rfl, Nat.le_of_ble_eq_true rfl⟩) (rX_43 X hP) hP hD hS rfl hl.1 rfl (Nat.le_of_ble_eq_true rfl) (dk DX3_parseDeed 34 rfl) (fun r9 S8 H locs h hP hD hS => ?_)
    obtain ⟨hin, h⟩ := h
    refine stX_47 X hP hD hS hin (dk DX3_parseDeed 35 rfl) (fun S10 eS10 H locs hP hD hS => ?_)
    have h := h S10 eS10
    refine lv_aload_n hx hb (dk DX3_parseDeed 36 rfl) rfl (lv_at hl 0 rfl) ?_
    refine lv_bipush (v := 40) hx hb (dk DX3_parseDeed 37 rfl) (by decide) ?_
    refine cXv (As := [.int 40]) (rest := []) X (m_X3_expect_43 (l := l) (dC := dC) (dI := dI) (q := q) (cI := cI) (cT := cT) (en := en) (sz := _) 40 S10 h) (cwV 1 X.2.2.2.2.1 (gxV 348 349 350 231 325 rfl rfl rfl rfl rfl) rfl rfl rfl q_X3_expect_43 ⟨Nat.le_of_ble_eq_true rfl, Nat.le_of_ble_eq_true rfl⟩) (rX_43 X hP) hP hD hS rfl hl.1 rfl (Nat.le_of_ble_eq_true rfl) (dk DX3_parseDeed 38 rfl) (fun S11 H locs h hP hD hS => ?_)
    refine lv_aload_n hx hb (dk DX3_parseDeed 39 rfl) rfl (lv_at hl 0 rfl) ?_
    refine gX_43 X hP 15 (by decide) rfl lk25 (dk DX3_parseDeed 40 rfl) ?_
    refine lv_iload_n hx hb (dk DX3_parseDeed 41 rfl) rfl (lv_at hl 2 rfl) ?_
    refine lv_iconst (v := 3) hx hb (dk DX3_parseDeed 42 rfl) (by decide) ?_
    refine lv_iadd hx hb (dk DX3_parseDeed 43 rfl) ?_
    refine lv_aload_n hx hb (dk DX3_parseDeed 44 rfl) rfl (lv_at hl 0 rfl) ?_
    refine lv_iconst (v := 1) hx hb (dk DX3_parseDeed 45 rfl) (by decide) ?_
    refine lv_bipush (v := 9) hx hb (dk DX3_parseDeed 46 rfl) (by decide) ?_
    refine cXi (As := [.int 1, .int 9]) (rest := [.int (a1 + 3), .ref (q 47)]) X (m_X3_number_43 (l := l) (dC := dC) (dI := dI) (q := q) (cI := cI) (cT := cT) (en := en) (sz := _) 1 9 S11 h) (cwV 2 X.2.2.2.2.1 (gxV 359 360 361 231 328 rfl rfl rfl rfl rfl) rfl rfl rfl q_X3_number_43 ⟨Nat.le_of_ble_eq_true rfl, Nat.le_of_ble_eq_true rfl⟩) (rX_43 X hP) hP hD hS rfl hl.1 rfl (Nat.le_of_ble_eq_true rfl) (dk DX3_parseDeed 47 rfl) (fun r13 S12 H locs h hP hD hS => ?_)
    obtain ⟨hin, h⟩ := h
    refine stX_47 X hP hD hS hin (dk DX3_parseDeed 48 rfl) (fun S14 eS14 H locs hP hD hS => ?_)
    have h := h S14 eS14
    refine lv_goto (tgt := 119) hx hb (dk DX3_parseDeed 49 rfl) (by decide) ?_
    exact W.vret hx hb hr (fun t ht hW => ⟨⟨_, rfl, h, by rw [ht]; exact hP, va_K.moved hW.alike X.2.2.2.2.2.2.1, hD⟩, hS.F ht⟩) hS.2.2 (dk DX3_parseDeed 60 rfl)
  have h := h.2
  have h := h hc36 hc37
  refine lv_lookup (off := 103) (tgt := 104) hx hb (dk DX3_parseDeed 1 rfl) (by decide) (by show Op.lookupswitch.offset [(36, 27), (37, 44)] 103 _ = 103; rw [lv_osw hc36 (by decide), lv_osw hc37 (by decide)]; rfl) (by decide) ?_
  refine lv_aload_n hx hb (dk DX3_parseDeed 50 rfl) rfl (lv_at hl 0 rfl) ?_
  refine gX_43 X hP 15 (by decide) rfl lk25 (dk DX3_parseDeed 51 rfl) ?_
  refine lv_iload_n hx hb (dk DX3_parseDeed 52 rfl) rfl (lv_at hl 2 rfl) ?_
  refine lv_iconst (v := 1) hx hb (dk DX3_parseDeed 53 rfl) (by decide) ?_
  refine lv_iadd hx hb (dk DX3_parseDeed 54 rfl) ?_
  refine lv_aload_n hx hb (dk DX3_parseDeed 55 rfl) rfl (lv_at hl 0 rfl) ?_
  refine lv_iconst (v := 1) hx hb (dk DX3_parseDeed 56 rfl) (by decide) ?_
  refine lv_bipush (v := 99) hx hb (dk DX3_parseDeed 57 rfl) (by decide) ?_
  refine cXi (As := [.int 1, .int 99]) (rest := [.int (a1 + 1), .ref (q 47)]) X (m_X3_number_43 (l := l) (dC := dC) (dI := dI) (q := q) (cI := cI) (cT := cT) (en := en) (sz := _) 1 99 S h) (cwV 2 X.2.2.2.2.1 (gxV 359 360 361 231 328 rfl rfl rfl rfl rfl) rfl rfl rfl q_X3_number_43 ⟨Nat.le_of_ble_eq_true rfl, Nat.le_of_ble_eq_true rfl⟩) (rX_43 X hP) hP hD hS rfl hl.1 rfl (Nat.le_of_ble_eq_true rfl) (dk DX3_parseDeed 58 rfl) (fun r16 S15 H locs h hP hD hS => ?_)
  obtain ⟨hin, h⟩ := h
  refine stX_47 X hP hD hS hin (dk DX3_parseDeed 59 rfl) (fun S17 eS17 H locs hP hD hS => ?_)
  have h := h S17 eS17
  exact W.vret hx hb hr (fun t ht hW => ⟨⟨_, rfl, h, by rw [ht]; exact hP, va_K.moved hW.alike X.2.2.2.2.2.2.1, hD⟩, hS.F ht⟩) hS.2.2 (dk DX3_parseDeed 60 rfl)

def rmG (d : Nat) : Room := { frames := 12 + d, cells := 0, slots := 0, locals := 400 + 40 * d }
theorem rmG_f (d : Nat) : 12 + d + 1 ≤ 12 + (d + 1) := by omega
theorem rmG_l {k : Nat} (d : Nat) (hk : k ≤ 20 := by decide) : 8 + (k + 11) + (400 + 40 * d) ≤ 400 + 40 * (d + 1) := by omega
theorem rmG_c {f k : Nat} (d : Nat) (h1 : f ≤ 13) (h2 : k ≤ 440) : f ≤ 12 + (d + 1) ∧ k ≤ 400 + 40 * (d + 1) := ⟨by omega, by omega⟩
def ww_X3_parseSum_43 : List Cond := .code yX3_parseSum cX3_parseSum 3 none :: (WdX ++ WsX)
theorem qG_0 : yX3_parseSum.cls = RX3 ∧ yX3_parseSum.cls ≠ "java/lang/invoke/MethodHandle" ∧ yX3_parseSum.cls ≠ "java/lang/invoke/VarHandle" ∧ (parseMethodDescriptor yX3_parseSum.desc).map (fun d => d.parameters.length) = some 0 := by decide +kernel
def ww_X3_parseProduct_43 : List Cond := .code yX3_parseProduct cX3_parseProduct 3 none :: (WdX ++ WsX)
theorem qG_1 : yX3_parseProduct.cls = RX3 ∧ yX3_parseProduct.cls ≠ "java/lang/invoke/MethodHandle" ∧ yX3_parseProduct.cls ≠ "java/lang/invoke/VarHandle" ∧ (parseMethodDescriptor yX3_parseProduct.desc).map (fun d => d.parameters.length) = some 0 := by decide +kernel
def ww_X3_parseOne_43 : List Cond := .code yX3_parseOne cX3_parseOne 1 none :: (WdX ++ WsX)
theorem qG_2 : yX3_parseOne.cls = RX3 ∧ yX3_parseOne.cls ≠ "java/lang/invoke/MethodHandle" ∧ yX3_parseOne.cls ≠ "java/lang/invoke/VarHandle" ∧ (parseMethodDescriptor yX3_parseOne.desc).map (fun d => d.parameters.length) = some 0 := by decide +kernel
def ww_X3_parseChoice_43 : List Cond := .code yX3_parseChoice cX3_parseChoice 3 none :: (WdX ++ WsX)
theorem qG_3 : yX3_parseChoice.cls = RX3 ∧ yX3_parseChoice.cls ≠ "java/lang/invoke/MethodHandle" ∧ yX3_parseChoice.cls ≠ "java/lang/invoke/VarHandle" ∧ (parseMethodDescriptor yX3_parseChoice.desc).map (fun d => d.parameters.length) = some 0 := by decide +kernel
def ww_X3_parseEither_43 : List Cond := .code yX3_parseEither cX3_parseEither 2 none :: (WdX ++ WsX)
theorem qG_4 : yX3_parseEither.cls = RX3 ∧ yX3_parseEither.cls ≠ "java/lang/invoke/MethodHandle" ∧ yX3_parseEither.cls ≠ "java/lang/invoke/VarHandle" ∧ (parseMethodDescriptor yX3_parseEither.desc).map (fun d => d.parameters.length) = some 0 := by decide +kernel
def ww_X3_parseBoth_43 : List Cond := .code yX3_parseBoth cX3_parseBoth 2 none :: (WdX ++ WsX)
theorem qG_5 : yX3_parseBoth.cls = RX3 ∧ yX3_parseBoth.cls ≠ "java/lang/invoke/MethodHandle" ∧ yX3_parseBoth.cls ≠ "java/lang/invoke/VarHandle" ∧ (parseMethodDescriptor yX3_parseBoth.desc).map (fun d => d.parameters.length) = some 0 := by decide +kernel
def ww_X3_parseAsk_43 : List Cond := .code yX3_parseAsk cX3_parseAsk 2 none :: (WdX ++ WsX)
theorem qG_6 : yX3_parseAsk.cls = RX3 ∧ yX3_parseAsk.cls ≠ "java/lang/invoke/MethodHandle" ∧ yX3_parseAsk.cls ≠ "java/lang/invoke/VarHandle" ∧ (parseMethodDescriptor yX3_parseAsk.desc).map (fun d => d.parameters.length) = some 0 := by decide +kernel

abbrev Hd_X3_parseSum_43 : Type := (Int32) ⊕ (Int32)
def B_X3_parseSum_43 (R : Nat → (XS → Prop) → XS → Prop) (Post : XS → Prop) (K : Hd_X3_parseSum_43 → XS → Prop) : Hd_X3_parseSum_43 → XS → Prop
  | (.inl x1), S => ((300 ≤ x1 → Post S) ∧ (¬ 300 ≤ x1 → (((S.1 1381) = 4 → K (.inr x1) S) ∧ (¬ (S.1 1381) = 4 → ((¬ (S.1 1381) = 5 → Post S) ∧ ((S.1 1381) = 5 → K (.inr x1) S))))))
  | (.inr x1), S => ∀ v2 : Int32, v2 = (S.1 1381) → VC_X3_advance_43 (fun S3 => R 1 (fun S4 => VC_X3_emit_43 (fun r6 S5 => ∀ v7 : Int32, v7 = x1 + 1 → K (.inl v7) S5) v2 0 S4) S3) S
def VC_X3_parseSum_43 (R : Nat → (XS → Prop) → XS → Prop) (Post : XS → Prop) (S : XS) : Prop := ∀ K : Hd_X3_parseSum_43 → XS → Prop, (∀ h S, B_X3_parseSum_43 R Post K h S → K h S) → R 1 (fun S1 => K (.inl 0) S1) S
set_option maxHeartbeats 4000000 in
set_option maxRecDepth 100000 in
theorem h_X3_parseSum_43_0 {p : Program} {l : Launch} {e : Env} {s : State} {m : MethodId} {below : List Frame} {meth : Method} {c : Code} {dC : Nat → ClassId} {dI : Nat → Nat → Nat} {q : Nat → Nat} {cI cT : ClassId} {en : Nat → Nat} {A : Nat → Prop} {R : Nat → (XS → Prop) → XS → Prop} {d : Nat} (hR0 : ∀ (Post : XS → Prop) (S : XS) (sz : Nat), R 0 Post S → Met l yX3_parseSum ww_X3_parseSum_43 (rmG d) (va_Pc [.ref (q 43)] (preX dC dI q cI cT en S sz)) (va_Qv Post (atX dC dI q cI cT (va_A (wX q cI cT S) sz)) (va_A (wX q cI cT S) sz)) 0 0 (va_A (wX q cI cT S) sz)) (hR1 : ∀ (Post : XS → Prop) (S : XS) (sz : Nat), R 1 Post S → Met l yX3_parseProduct ww_X3_parseProduct_43 (rmG d) (va_Pc [.ref (q 43)] (preX dC dI q cI cT en S sz)) (va_Qv Post (atX dC dI q cI cT (va_A (wX q cI cT S) sz)) (va_A (wX q cI cT S) sz)) 0 0 (va_A (wX q cI cT S) sz)) (hR2 : ∀ (Post : XS → Prop) (S : XS) (sz : Nat), R 2 Post S → Met l yX3_parseOne ww_X3_parseOne_43 (rmG d) (va_Pc [.ref (q 43)] (preX dC dI q cI cT en S sz)) (va_Qv Post (atX dC dI q cI cT (va_A (wX q cI cT S) sz)) (va_A (wX q cI cT S) sz)) 0 0 (va_A (wX q cI cT S) sz)) (hR3 : ∀ (Post : XS → Prop) (S : XS) (sz : Nat), R 3 Post S → Met l yX3_parseChoice ww_X3_parseChoice_43 (rmG d) (va_Pc [.ref (q 43)] (preX dC dI q cI cT en S sz)) (va_Qv Post (atX dC dI q cI cT (va_A (wX q cI cT S) sz)) (va_A (wX q cI cT S) sz)) 0 0 (va_A (wX q cI cT S) sz)) (hR4 : ∀ (Post : XS → Prop) (S : XS) (sz : Nat), R 4 Post S → Met l yX3_parseEither ww_X3_parseEither_43 (rmG d) (va_Pc [.ref (q 43)] (preX dC dI q cI cT en S sz)) (va_Qv Post (atX dC dI q cI cT (va_A (wX q cI cT S) sz)) (va_A (wX q cI cT S) sz)) 0 0 (va_A (wX q cI cT S) sz)) (hR5 : ∀ (Post : XS → Prop) (S : XS) (sz : Nat), R 5 Post S → Met l yX3_parseBoth ww_X3_parseBoth_43 (rmG d) (va_Pc [.ref (q 43)] (preX dC dI q cI cT en S sz)) (va_Qv Post (atX dC dI q cI cT (va_A (wX q cI cT S) sz)) (va_A (wX q cI cT S) sz)) 0 0 (va_A (wX q cI cT S) sz)) (hR6 : ∀ (Post : XS → Prop) (S : XS) (sz : Nat), R 6 Post S → Met l yX3_parseAsk ww_X3_parseAsk_43 (rmG d) (va_Pc [.ref (q 43)] (preX dC dI q cI cT en S sz)) (va_Qv Post (atX dC dI q cI cT (va_A (wX q cI cT S) sz)) (va_A (wX q cI cT S) sz)) 0 0 (va_A (wX q cI cT S) sz)) {args : Array Value} {Post : XS → Prop} {K : Hd_X3_parseSum_43 → XS → Prop} (X : XX p s m args c cX3_parseSum 3 ww_X3_parseSum_43 RX3 dC dI cI cT en A) (hr : meth.sig.returnType = none) (hlocks : meth.locks = false) (hK0 : ∀ (x1 : Int32) (S : XS), K (.inl x1) S → ∀ (H : Heap) (locs : List Loc), va_P (dC, dI) vwCl (wX q cI cT S) H → va_D A (wX q cI cT S) → va_S A s.heap H locs → ∀ ls : Array Slot, lv_has ls 3 [(0, .ref (q 43)), (1, .int x1)] → W p l e (headSpec ww_X3_parseSum_43 (rmG (d + 1))).room s m args below meth c H locs 0 0 (MQ below (va_Qv Post (atX dC dI q cI cT A) A) args s 0 0 A) (F0 m 6 ls [])) (hK1 : ∀ (x1 : Int32) (S : XS), K (.inr x1) S → ∀ (H : Heap) (locs : List Loc), va_P (dC, dI) vwCl (wX q cI cT S) H → va_D A (wX q cI cT S) → va_S A s.heap H locs → ∀ ls : Array Slot, lv_has ls 3 [(0, .ref (q 43)), (1, .int x1)] → W p l e (headSpec ww_X3_parseSum_43 (rmG (d + 1))).room s m args below meth c H locs 0 0 (MQ below (va_Qv Post (atX dC dI q cI cT A) A) args s 0 0 A) (F0 m 29 ls [])) (x1 : Int32) (S : XS) (h : B_X3_parseSum_43 R Post K (.inl x1) S) : ∀ (H : Heap) (locs : List Loc), va_P (dC, dI) vwCl (wX q cI cT S) H → va_D A (wX q cI cT S) → va_S A s.heap H locs → ∀ ls : Array Slot, lv_has ls 3 [(0, .ref (q 43)), (1, .int x1)] → W p l e (headSpec ww_X3_parseSum_43 (rmG (d + 1))).room s m args below meth c H locs 0 0 (MQ below (va_Qv Post (atX dC dI q cI cT A) A) args s 0 0 A) (F0 m 6 ls []) := by
  have hx := X.1
  have hb := X.2.1
  intro H locs hP hD hS ls hl
  have lk60 := X.2.2.2.2.1 (.fieldLink RX3 60 "BreathOnLoan$Parser" "token" "I") (inX 228 rfl)
  dsimp only [B_X3_parseSum_43] at h
  refine lv_iload_n hx hb (dk DX3_parseSum 4 rfl) rfl (lv_at hl 1 rfl) ?_
  refine lv_sipush (v := 300) hx hb (dk DX3_parseSum 5 rfl) (by decide) ?_
  refine lv_icmp_ge (tgt := 55) hx hb (dk DX3_parseSum 6 rfl) (by decide) (fun hc => ?_) (fun hc => ?_)
  · have h := h.1 hc
    exact W.vret hx hb hr (fun t ht hW => ⟨⟨_, rfl, h, by rw [ht]; exact hP, va_K.moved hW.alike X.2.2.2.2.2.2.1, hD⟩, hS.F ht⟩) hS.2.2 (dk DX3_parseSum 29 rfl)
  · have h := h.2 hc
    refine lv_aload_n hx hb (dk DX3_parseSum 7 rfl) rfl (lv_at hl 0 rfl) ?_
    refine gX_43 X hP 5 (by decide) rfl lk60 (dk DX3_parseSum 8 rfl) ?_
    refine lv_iconst (v := 4) hx hb (dk DX3_parseSum 9 rfl) (by decide) ?_
    refine lv_icmp_eq (tgt := 29) hx hb (dk DX3_parseSum 10 rfl) (by decide) (fun hc => ?_) (fun hc => ?_)
    · have h := h.1 hc
      exact hK1 x1 S h _ _ hP hD hS ls (lv_sub hl [0, 1] rfl)
    · have h := h.2 hc
      refine lv_aload_n hx hb (dk DX3_parseSum 11 rfl) rfl (lv_at hl 0 rfl) ?_
      refine gX_43 X hP 5 (by decide) rfl lk60 (dk DX3_parseSum 12 rfl) ?_
      refine lv_iconst (v := 5) hx hb (dk DX3_parseSum 13 rfl) (by decide) ?_
      refine lv_icmp_ne (tgt := 55) hx hb (dk DX3_parseSum 14 rfl) (by decide) (fun hc => ?_) (fun hc => ?_)
      · have h := h.1 hc
        exact W.vret hx hb hr (fun t ht hW => ⟨⟨_, rfl, h, by rw [ht]; exact hP, va_K.moved hW.alike X.2.2.2.2.2.2.1, hD⟩, hS.F ht⟩) hS.2.2 (dk DX3_parseSum 29 rfl)
      · have h := h.2 hc
        exact hK1 x1 S h _ _ hP hD hS ls (lv_sub hl [0, 1] rfl)
set_option maxHeartbeats 4000000 in
set_option maxRecDepth 100000 in
theorem h_X3_parseSum_43_1 {p : Program} {l : Launch} {e : Env} {s : State} {m : MethodId} {below : List Frame} {meth : Method} {c : Code} {dC : Nat → ClassId} {dI : Nat → Nat → Nat} {q : Nat → Nat} {cI cT : ClassId} {en : Nat → Nat} {A : Nat → Prop} {R : Nat → (XS → Prop) → XS → Prop} {d : Nat} (hR0 : ∀ (Post : XS → Prop) (S : XS) (sz : Nat), R 0 Post S → Met l yX3_parseSum ww_X3_parseSum_43 (rmG d) (va_Pc [.ref (q 43)] (preX dC dI q cI cT en S sz)) (va_Qv Post (atX dC dI q cI cT (va_A (wX q cI cT S) sz)) (va_A (wX q cI cT S) sz)) 0 0 (va_A (wX q cI cT S) sz)) (hR1 : ∀ (Post : XS → Prop) (S : XS) (sz : Nat), R 1 Post S → Met l yX3_parseProduct ww_X3_parseProduct_43 (rmG d) (va_Pc [.ref (q 43)] (preX dC dI q cI cT en S sz)) (va_Qv Post (atX dC dI q cI cT (va_A (wX q cI cT S) sz)) (va_A (wX q cI cT S) sz)) 0 0 (va_A (wX q cI cT S) sz)) (hR2 : ∀ (Post : XS → Prop) (S : XS) (sz : Nat), R 2 Post S → Met l yX3_parseOne ww_X3_parseOne_43 (rmG d) (va_Pc [.ref (q 43)] (preX dC dI q cI cT en S sz)) (va_Qv Post (atX dC dI q cI cT (va_A (wX q cI cT S) sz)) (va_A (wX q cI cT S) sz)) 0 0 (va_A (wX q cI cT S) sz)) (hR3 : ∀ (Post : XS → Prop) (S : XS) (sz : Nat), R 3 Post S → Met l yX3_parseChoice ww_X3_parseChoice_43 (rmG d) (va_Pc [.ref (q 43)] (preX dC dI q cI cT en S sz)) (va_Qv Post (atX dC dI q cI cT (va_A (wX q cI cT S) sz)) (va_A (wX q cI cT S) sz)) 0 0 (va_A (wX q cI cT S) sz)) (hR4 : ∀ (Post : XS → Prop) (S : XS) (sz : Nat), R 4 Post S → Met l yX3_parseEither ww_X3_parseEither_43 (rmG d) (va_Pc [.ref (q 43)] (preX dC dI q cI cT en S sz)) (va_Qv Post (atX dC dI q cI cT (va_A (wX q cI cT S) sz)) (va_A (wX q cI cT S) sz)) 0 0 (va_A (wX q cI cT S) sz)) (hR5 : ∀ (Post : XS → Prop) (S : XS) (sz : Nat), R 5 Post S → Met l yX3_parseBoth ww_X3_parseBoth_43 (rmG d) (va_Pc [.ref (q 43)] (preX dC dI q cI cT en S sz)) (va_Qv Post (atX dC dI q cI cT (va_A (wX q cI cT S) sz)) (va_A (wX q cI cT S) sz)) 0 0 (va_A (wX q cI cT S) sz)) (hR6 : ∀ (Post : XS → Prop) (S : XS) (sz : Nat), R 6 Post S → Met l yX3_parseAsk ww_X3_parseAsk_43 (rmG d) (va_Pc [.ref (q 43)] (preX dC dI q cI cT en S sz)) (va_Qv Post (atX dC dI q cI cT (va_A (wX q cI cT S) sz)) (va_A (wX q cI cT S) sz)) 0 0 (va_A (wX q cI cT S) sz)) {args : Array Value} {Post : XS → Prop} {K : Hd_X3_parseSum_43 → XS → Prop} (X : XX p s m args c cX3_parseSum 3 ww_X3_parseSum_43 RX3 dC dI cI cT en A) (hr : meth.sig.returnType = none) (hlocks : meth.locks = false) (hK0 : ∀ (x1 : Int32) (S : XS), K (.inl x1) S → ∀ (H : Heap) (locs : List Loc), va_P (dC, dI) vwCl (wX q cI cT S) H → va_D A (wX q cI cT S) → va_S A s.heap H locs → ∀ ls : Array Slot, lv_has ls 3 [(0, .ref (q 43)), (1, .int x1)] → W p l e (headSpec ww_X3_parseSum_43 (rmG (d + 1))).room s m args below meth c H locs 0 0 (MQ below (va_Qv Post (atX dC dI q cI cT A) A) args s 0 0 A) (F0 m 6 ls [])) (hK1 : ∀ (x1 : Int32) (S : XS), K (.inr x1) S → ∀ (H : Heap) (locs : List Loc), va_P (dC, dI) vwCl (wX q cI cT S) H → va_D A (wX q cI cT S) → va_S A s.heap H locs → ∀ ls : Array Slot, lv_has ls 3 [(0, .ref (q 43)), (1, .int x1)] → W p l e (headSpec ww_X3_parseSum_43 (rmG (d + 1))).room s m args below meth c H locs 0 0 (MQ below (va_Qv Post (atX dC dI q cI cT A) A) args s 0 0 A) (F0 m 29 ls [])) (x1 : Int32) (S : XS) (h : B_X3_parseSum_43 R Post K (.inr x1) S) : ∀ (H : Heap) (locs : List Loc), va_P (dC, dI) vwCl (wX q cI cT S) H → va_D A (wX q cI cT S) → va_S A s.heap H locs → ∀ ls : Array Slot, lv_has ls 3 [(0, .ref (q 43)), (1, .int x1)] → W p l e (headSpec ww_X3_parseSum_43 (rmG (d + 1))).room s m args below meth c H locs 0 0 (MQ below (va_Qv Post (atX dC dI q cI cT A) A) args s 0 0 A) (F0 m 29 ls []) := by
  have hx := X.1
  have hb := X.2.1
  intro H locs hP hD hS ls hl
  have lk60 := X.2.2.2.2.1 (.fieldLink RX3 60 "BreathOnLoan$Parser" "token" "I") (inX 228 rfl)
  dsimp only [B_X3_parseSum_43] at h
  refine lv_aload_n hx hb (dk DX3_parseSum 15 rfl) rfl (lv_at hl 0 rfl) ?_
  refine gX_43 X hP 5 (by decide) rfl lk60 (dk DX3_parseSum 16 rfl) ?_
  refine lv_topi (fun v2 ev2 => ?_)
  have h := h v2 ev2
  refine lv_istore_n (lv' := [(2, .int v2), (0, .ref (q 43)), (1, .int x1)]) hx hb (dk DX3_parseSum 17 rfl) rfl hl (by decide) rfl (fun ls hl => ?_)
  refine lv_aload_n hx hb (dk DX3_parseSum 18 rfl) rfl (lv_at hl 1 rfl) ?_
  refine cXv (As := []) (rest := []) X (m_X3_advance_43 (l := l) (dC := dC) (dI := dI) (q := q) (cI := cI) (cT := cT) (en := en) (sz := _) S h) (cwV 0 X.2.2.2.2.1 (gxV 318 319 320 231 312 rfl rfl rfl rfl rfl) rfl rfl rfl q_X3_advance_43 (rmG_c d (Nat.le_of_ble_eq_true rfl) (Nat.le_of_ble_eq_true rfl))) (rX_43 X hP) hP hD hS rfl hl.1 rfl (Nat.le_of_ble_eq_true rfl) (dk DX3_parseSum 19 rfl) (fun S3 H locs h hP hD hS => ?_)
  refine lv_aload_n hx hb (dk DX3_parseSum 20 rfl) rfl (lv_at hl 1 rfl) ?_
  refine cXv (As := []) (rest := []) X (hR1 _ _ _ h) (cwV 0 X.2.2.2.2.1 (gxV 373 374 375 231 371 rfl rfl rfl rfl rfl) rfl rfl rfl qG_1 ⟨rmG_f d, rmG_l d⟩) (rX_43 X hP) hP hD hS rfl hl.1 rfl (Nat.le_of_ble_eq_true rfl) (dk DX3_parseSum 21 rfl) (fun S4 H locs h hP hD hS => ?_)
  refine lv_aload_n hx hb (dk DX3_parseSum 22 rfl) rfl (lv_at hl 1 rfl) ?_
  refine lv_iload_n hx hb (dk DX3_parseSum 23 rfl) rfl (lv_at hl 0 rfl) ?_
  refine lv_iconst (v := 0) hx hb (dk DX3_parseSum 24 rfl) (by decide) ?_
  refine cXi (As := [.int v2, .int 0]) (rest := []) X (m_X3_emit_43 (l := l) (dC := dC) (dI := dI) (q := q) (cI := cI) (cT := cT) (en := en) (sz := _) v2 0 S4 h) (cwV 2 X.2.2.2.2.1 (gxV 330 331 332 231 322 rfl rfl rfl rfl rfl) rfl rfl rfl q_X3_emit_43 (rmG_c d (Nat.le_of_ble_eq_true rfl) (Nat.le_of_ble_eq_true rfl))) (rX_43 X hP) hP hD hS rfl hl.1 rfl (Nat.le_of_ble_eq_true rfl) (dk DX3_parseSum 25 rfl) (fun r6 S5 H locs h hP hD hS => ?_)
  refine lv_pop hx hb (dk DX3_parseSum 26 rfl) rfl ?_
  obtain ⟨v7, ev7⟩ : ∃ y : Int32, y = x1 + 1 := ⟨_, rfl⟩
  have h := h v7 ev7
  refine lv_iinc (v := v7) (lv' := [(1, .int v7), (2, .int v2), (0, .ref (q 43))]) hx hb (dk DX3_parseSum 27 rfl) hl (k := 2) rfl (by rw [ev7]; rfl) (by decide) rfl (fun ls hl => ?_)
  refine lv_goto (tgt := 6) hx hb (dk DX3_parseSum 28 rfl) (by decide) ?_
  exact hK0 v7 S5 h _ _ hP hD hS ls (lv_sub hl [2, 0] rfl)
set_option maxHeartbeats 4000000 in
set_option maxRecDepth 100000 in
theorem m_X3_parseSum_43 {l : Launch} {dC : Nat → ClassId} {dI : Nat → Nat → Nat} {q : Nat → Nat} {cI cT : ClassId} {en : Nat → Nat} {sz : Nat} {Post : XS → Prop} {R : Nat → (XS → Prop) → XS → Prop} {d : Nat} (hR0 : ∀ (Post : XS → Prop) (S : XS) (sz : Nat), R 0 Post S → Met l yX3_parseSum ww_X3_parseSum_43 (rmG d) (va_Pc [.ref (q 43)] (preX dC dI q cI cT en S sz)) (va_Qv Post (atX dC dI q cI cT (va_A (wX q cI cT S) sz)) (va_A (wX q cI cT S) sz)) 0 0 (va_A (wX q cI cT S) sz)) (hR1 : ∀ (Post : XS → Prop) (S : XS) (sz : Nat), R 1 Post S → Met l yX3_parseProduct ww_X3_parseProduct_43 (rmG d) (va_Pc [.ref (q 43)] (preX dC dI q cI cT en S sz)) (va_Qv Post (atX dC dI q cI cT (va_A (wX q cI cT S) sz)) (va_A (wX q cI cT S) sz)) 0 0 (va_A (wX q cI cT S) sz)) (hR2 : ∀ (Post : XS → Prop) (S : XS) (sz : Nat), R 2 Post S → Met l yX3_parseOne ww_X3_parseOne_43 (rmG d) (va_Pc [.ref (q 43)] (preX dC dI q cI cT en S sz)) (va_Qv Post (atX dC dI q cI cT (va_A (wX q cI cT S) sz)) (va_A (wX q cI cT S) sz)) 0 0 (va_A (wX q cI cT S) sz)) (hR3 : ∀ (Post : XS → Prop) (S : XS) (sz : Nat), R 3 Post S → Met l yX3_parseChoice ww_X3_parseChoice_43 (rmG d) (va_Pc [.ref (q 43)] (preX dC dI q cI cT en S sz)) (va_Qv Post (atX dC dI q cI cT (va_A (wX q cI cT S) sz)) (va_A (wX q cI cT S) sz)) 0 0 (va_A (wX q cI cT S) sz)) (hR4 : ∀ (Post : XS → Prop) (S : XS) (sz : Nat), R 4 Post S → Met l yX3_parseEither ww_X3_parseEither_43 (rmG d) (va_Pc [.ref (q 43)] (preX dC dI q cI cT en S sz)) (va_Qv Post (atX dC dI q cI cT (va_A (wX q cI cT S) sz)) (va_A (wX q cI cT S) sz)) 0 0 (va_A (wX q cI cT S) sz)) (hR5 : ∀ (Post : XS → Prop) (S : XS) (sz : Nat), R 5 Post S → Met l yX3_parseBoth ww_X3_parseBoth_43 (rmG d) (va_Pc [.ref (q 43)] (preX dC dI q cI cT en S sz)) (va_Qv Post (atX dC dI q cI cT (va_A (wX q cI cT S) sz)) (va_A (wX q cI cT S) sz)) 0 0 (va_A (wX q cI cT S) sz)) (hR6 : ∀ (Post : XS → Prop) (S : XS) (sz : Nat), R 6 Post S → Met l yX3_parseAsk ww_X3_parseAsk_43 (rmG d) (va_Pc [.ref (q 43)] (preX dC dI q cI cT en S sz)) (va_Qv Post (atX dC dI q cI cT (va_A (wX q cI cT S) sz)) (va_A (wX q cI cT S) sz)) 0 0 (va_A (wX q cI cT S) sz)) (S : XS) (h : VC_X3_parseSum_43 R Post S) : Met l yX3_parseSum ww_X3_parseSum_43 (rmG (d + 1)) (va_Pc [.ref (q 43)] (preX dC dI q cI cT en S sz)) (va_Qv Post (atX dC dI q cI cT (va_A (wX q cI cT S) sz)) (va_A (wX q cI cT S) sz)) 0 0 (va_A (wX q cI cT S) sz) := by
  refine oX (cc := cX3_parseSum) (maxL := 3) (ret := none) (Qc := fun A => va_Qv Post (atX dC dI q cI cT A) A) (own := RX3) (by decide) rfl (fun w h => List.mem_cons_of_mem _ (List.mem_append_right _ h)) rfl (Nat.le_of_ble_eq_true rfl) (fun p e s m below meth c A ls X hr hlocks hP hD hS hl => ?_)
  have hx := X.1
  have hb := X.2.1
  have hl : lv_has ls 3 [(0, .ref (q 43))] := hl
  have lk60 := X.2.2.2.2.1 (.fieldLink RX3 60 "BreathOnLoan$Parser" "token" "I") (inX 228 rfl)
  generalize hargs : ([.ref (q 43)] : List Value).toArray = args at X ⊢
  have h := h (fun hd S => match hd with | (.inl x1) => ∀ (H : Heap) (locs : List Loc), va_P (dC, dI) vwCl (wX q cI cT S) H → va_D A (wX q cI cT S) → va_S A s.heap H locs → ∀ ls : Array Slot, lv_has ls 3 [(0, .ref (q 43)), (1, .int x1)] → W p l e (headSpec ww_X3_parseSum_43 (rmG (d + 1))).room s m args below meth c H locs 0 0 (MQ below (va_Qv Post (atX dC dI q cI cT A) A) args s 0 0 A) (F0 m 6 ls []) | (.inr x1) => ∀ (H : Heap) (locs : List Loc), va_P (dC, dI) vwCl (wX q cI cT S) H → va_D A (wX q cI cT S) → va_S A s.heap H locs → ∀ ls : Array Slot, lv_has ls 3 [(0, .ref (q 43)), (1, .int x1)] → W p l e (headSpec ww_X3_parseSum_43 (rmG (d + 1))).room s m args below meth c H locs 0 0 (MQ below (va_Qv Post (atX dC dI q cI cT A) A) args s 0 0 A) (F0 m 29 ls [])) ?_
  · skip
    refine lv_aload_n hx hb (dk DX3_parseSum 0 rfl) rfl (lv_at hl 0 rfl) ?_
    refine cXv (As := []) (rest := []) X (hR1 _ _ _ h) (cwV 0 X.2.2.2.2.1 (gxV 373 374 375 231 371 rfl rfl rfl rfl rfl) rfl rfl rfl qG_1 ⟨rmG_f d, rmG_l d⟩) (rX_43 X hP) hP hD hS rfl hl.1 rfl (Nat.le_of_ble_eq_true rfl) (dk DX3_parseSum 1 rfl) (fun S1 H locs h hP hD hS => ?_)
    refine lv_iconst (v := 0) hx hb (dk DX3_parseSum 2 rfl) (by decide) ?_
    refine lv_istore_n (lv' := [(1, .int 0), (0, .ref (q 43))]) hx hb (dk DX3_parseSum 3 rfl) rfl hl (by decide) rfl (fun ls hl => ?_)
    exact h _ _ hP hD hS ls (lv_sub hl [1, 0] rfl)
  · rintro (x1 | x1) S hB
    · exact h_X3_parseSum_43_0 hR0 hR1 hR2 hR3 hR4 hR5 hR6 X hr hlocks (hK0 := fun _ _ h => h) (hK1 := fun _ _ h => h) x1 S hB
    · exact h_X3_parseSum_43_1 hR0 hR1 hR2 hR3 hR4 hR5 hR6 X hr hlocks (hK0 := fun _ _ h => h) (hK1 := fun _ _ h => h) x1 S hB

abbrev Hd_X3_parseProduct_43 : Type := (Int32) ⊕ (Int32)
def B_X3_parseProduct_43 (R : Nat → (XS → Prop) → XS → Prop) (Post : XS → Prop) (K : Hd_X3_parseProduct_43 → XS → Prop) : Hd_X3_parseProduct_43 → XS → Prop
  | (.inl x1), S => ((300 ≤ x1 → Post S) ∧ (¬ 300 ≤ x1 → (((S.1 1381) = 6 → K (.inr x1) S) ∧ (¬ (S.1 1381) = 6 → ((¬ (S.1 1381) = 7 → Post S) ∧ ((S.1 1381) = 7 → K (.inr x1) S))))))
  | (.inr x1), S => ∀ v2 : Int32, v2 = (S.1 1381) → VC_X3_advance_43 (fun S3 => R 2 (fun S4 => VC_X3_emit_43 (fun r6 S5 => ∀ v7 : Int32, v7 = x1 + 1 → K (.inl v7) S5) v2 0 S4) S3) S
def VC_X3_parseProduct_43 (R : Nat → (XS → Prop) → XS → Prop) (Post : XS → Prop) (S : XS) : Prop := ∀ K : Hd_X3_parseProduct_43 → XS → Prop, (∀ h S, B_X3_parseProduct_43 R Post K h S → K h S) → R 2 (fun S1 => K (.inl 0) S1) S
set_option maxHeartbeats 4000000 in
set_option maxRecDepth 100000 in
theorem h_X3_parseProduct_43_0 {p : Program} {l : Launch} {e : Env} {s : State} {m : MethodId} {below : List Frame} {meth : Method} {c : Code} {dC : Nat → ClassId} {dI : Nat → Nat → Nat} {q : Nat → Nat} {cI cT : ClassId} {en : Nat → Nat} {A : Nat → Prop} {R : Nat → (XS → Prop) → XS → Prop} {d : Nat} (hR0 : ∀ (Post : XS → Prop) (S : XS) (sz : Nat), R 0 Post S → Met l yX3_parseSum ww_X3_parseSum_43 (rmG d) (va_Pc [.ref (q 43)] (preX dC dI q cI cT en S sz)) (va_Qv Post (atX dC dI q cI cT (va_A (wX q cI cT S) sz)) (va_A (wX q cI cT S) sz)) 0 0 (va_A (wX q cI cT S) sz)) (hR1 : ∀ (Post : XS → Prop) (S : XS) (sz : Nat), R 1 Post S → Met l yX3_parseProduct ww_X3_parseProduct_43 (rmG d) (va_Pc [.ref (q 43)] (preX dC dI q cI cT en S sz)) (va_Qv Post (atX dC dI q cI cT (va_A (wX q cI cT S) sz)) (va_A (wX q cI cT S) sz)) 0 0 (va_A (wX q cI cT S) sz)) (hR2 : ∀ (Post : XS → Prop) (S : XS) (sz : Nat), R 2 Post S → Met l yX3_parseOne ww_X3_parseOne_43 (rmG d) (va_Pc [.ref (q 43)] (preX dC dI q cI cT en S sz)) (va_Qv Post (atX dC dI q cI cT (va_A (wX q cI cT S) sz)) (va_A (wX q cI cT S) sz)) 0 0 (va_A (wX q cI cT S) sz)) (hR3 : ∀ (Post : XS → Prop) (S : XS) (sz : Nat), R 3 Post S → Met l yX3_parseChoice ww_X3_parseChoice_43 (rmG d) (va_Pc [.ref (q 43)] (preX dC dI q cI cT en S sz)) (va_Qv Post (atX dC dI q cI cT (va_A (wX q cI cT S) sz)) (va_A (wX q cI cT S) sz)) 0 0 (va_A (wX q cI cT S) sz)) (hR4 : ∀ (Post : XS → Prop) (S : XS) (sz : Nat), R 4 Post S → Met l yX3_parseEither ww_X3_parseEither_43 (rmG d) (va_Pc [.ref (q 43)] (preX dC dI q cI cT en S sz)) (va_Qv Post (atX dC dI q cI cT (va_A (wX q cI cT S) sz)) (va_A (wX q cI cT S) sz)) 0 0 (va_A (wX q cI cT S) sz)) (hR5 : ∀ (Post : XS → Prop) (S : XS) (sz : Nat), R 5 Post S → Met l yX3_parseBoth ww_X3_parseBoth_43 (rmG d) (va_Pc [.ref (q 43)] (preX dC dI q cI cT en S sz)) (va_Qv Post (atX dC dI q cI cT (va_A (wX q cI cT S) sz)) (va_A (wX q cI cT S) sz)) 0 0 (va_A (wX q cI cT S) sz)) (hR6 : ∀ (Post : XS → Prop) (S : XS) (sz : Nat), R 6 Post S → Met l yX3_parseAsk ww_X3_parseAsk_43 (rmG d) (va_Pc [.ref (q 43)] (preX dC dI q cI cT en S sz)) (va_Qv Post (atX dC dI q cI cT (va_A (wX q cI cT S) sz)) (va_A (wX q cI cT S) sz)) 0 0 (va_A (wX q cI cT S) sz)) {args : Array Value} {Post : XS → Prop} {K : Hd_X3_parseProduct_43 → XS → Prop} (X : XX p s m args c cX3_parseProduct 3 ww_X3_parseProduct_43 RX3 dC dI cI cT en A) (hr : meth.sig.returnType = none) (hlocks : meth.locks = false) (hK0 : ∀ (x1 : Int32) (S : XS), K (.inl x1) S → ∀ (H : Heap) (locs : List Loc), va_P (dC, dI) vwCl (wX q cI cT S) H → va_D A (wX q cI cT S) → va_S A s.heap H locs → ∀ ls : Array Slot, lv_has ls 3 [(0, .ref (q 43)), (1, .int x1)] → W p l e (headSpec ww_X3_parseProduct_43 (rmG (d + 1))).room s m args below meth c H locs 0 0 (MQ below (va_Qv Post (atX dC dI q cI cT A) A) args s 0 0 A) (F0 m 6 ls [])) (hK1 : ∀ (x1 : Int32) (S : XS), K (.inr x1) S → ∀ (H : Heap) (locs : List Loc), va_P (dC, dI) vwCl (wX q cI cT S) H → va_D A (wX q cI cT S) → va_S A s.heap H locs → ∀ ls : Array Slot, lv_has ls 3 [(0, .ref (q 43)), (1, .int x1)] → W p l e (headSpec ww_X3_parseProduct_43 (rmG (d + 1))).room s m args below meth c H locs 0 0 (MQ below (va_Qv Post (atX dC dI q cI cT A) A) args s 0 0 A) (F0 m 31 ls [])) (x1 : Int32) (S : XS) (h : B_X3_parseProduct_43 R Post K (.inl x1) S) : ∀ (H : Heap) (locs : List Loc), va_P (dC, dI) vwCl (wX q cI cT S) H → va_D A (wX q cI cT S) → va_S A s.heap H locs → ∀ ls : Array Slot, lv_has ls 3 [(0, .ref (q 43)), (1, .int x1)] → W p l e (headSpec ww_X3_parseProduct_43 (rmG (d + 1))).room s m args below meth c H locs 0 0 (MQ below (va_Qv Post (atX dC dI q cI cT A) A) args s 0 0 A) (F0 m 6 ls []) := by
  have hx := X.1
  have hb := X.2.1
  intro H locs hP hD hS ls hl
  have lk60 := X.2.2.2.2.1 (.fieldLink RX3 60 "BreathOnLoan$Parser" "token" "I") (inX 228 rfl)
  dsimp only [B_X3_parseProduct_43] at h
  refine lv_iload_n hx hb (dk DX3_parseProduct 4 rfl) rfl (lv_at hl 1 rfl) ?_
  refine lv_sipush (v := 300) hx hb (dk DX3_parseProduct 5 rfl) (by decide) ?_
  refine lv_icmp_ge (tgt := 57) hx hb (dk DX3_parseProduct 6 rfl) (by decide) (fun hc => ?_) (fun hc => ?_)
  · have h := h.1 hc
    exact W.vret hx hb hr (fun t ht hW => ⟨⟨_, rfl, h, by rw [ht]; exact hP, va_K.moved hW.alike X.2.2.2.2.2.2.1, hD⟩, hS.F ht⟩) hS.2.2 (dk DX3_parseProduct 29 rfl)
  · have h := h.2 hc
    refine lv_aload_n hx hb (dk DX3_parseProduct 7 rfl) rfl (lv_at hl 0 rfl) ?_
    refine gX_43 X hP 5 (by decide) rfl lk60 (dk DX3_parseProduct 8 rfl) ?_
    refine lv_bipush (v := 6) hx hb (dk DX3_parseProduct 9 rfl) (by decide) ?_
    refine lv_icmp_eq (tgt := 31) hx hb (dk DX3_parseProduct 10 rfl) (by decide) (fun hc => ?_) (fun hc => ?_)
    · have h := h.1 hc
      exact hK1 x1 S h _ _ hP hD hS ls (lv_sub hl [0, 1] rfl)
    · have h := h.2 hc
      refine lv_aload_n hx hb (dk DX3_parseProduct 11 rfl) rfl (lv_at hl 0 rfl) ?_
      refine gX_43 X hP 5 (by decide) rfl lk60 (dk DX3_parseProduct 12 rfl) ?_
      refine lv_bipush (v := 7) hx hb (dk DX3_parseProduct 13 rfl) (by decide) ?_
      refine lv_icmp_ne (tgt := 57) hx hb (dk DX3_parseProduct 14 rfl) (by decide) (fun hc => ?_) (fun hc => ?_)
      · have h := h.1 hc
        exact W.vret hx hb hr (fun t ht hW => ⟨⟨_, rfl, h, by rw [ht]; exact hP, va_K.moved hW.alike X.2.2.2.2.2.2.1, hD⟩, hS.F ht⟩) hS.2.2 (dk DX3_parseProduct 29 rfl)
      · have h := h.2 hc
        exact hK1 x1 S h _ _ hP hD hS ls (lv_sub hl [0, 1] rfl)
set_option maxHeartbeats 4000000 in
set_option maxRecDepth 100000 in
theorem h_X3_parseProduct_43_1 {p : Program} {l : Launch} {e : Env} {s : State} {m : MethodId} {below : List Frame} {meth : Method} {c : Code} {dC : Nat → ClassId} {dI : Nat → Nat → Nat} {q : Nat → Nat} {cI cT : ClassId} {en : Nat → Nat} {A : Nat → Prop} {R : Nat → (XS → Prop) → XS → Prop} {d : Nat} (hR0 : ∀ (Post : XS → Prop) (S : XS) (sz : Nat), R 0 Post S → Met l yX3_parseSum ww_X3_parseSum_43 (rmG d) (va_Pc [.ref (q 43)] (preX dC dI q cI cT en S sz)) (va_Qv Post (atX dC dI q cI cT (va_A (wX q cI cT S) sz)) (va_A (wX q cI cT S) sz)) 0 0 (va_A (wX q cI cT S) sz)) (hR1 : ∀ (Post : XS → Prop) (S : XS) (sz : Nat), R 1 Post S → Met l yX3_parseProduct ww_X3_parseProduct_43 (rmG d) (va_Pc [.ref (q 43)] (preX dC dI q cI cT en S sz)) (va_Qv Post (atX dC dI q cI cT (va_A (wX q cI cT S) sz)) (va_A (wX q cI cT S) sz)) 0 0 (va_A (wX q cI cT S) sz)) (hR2 : ∀ (Post : XS → Prop) (S : XS) (sz : Nat), R 2 Post S → Met l yX3_parseOne ww_X3_parseOne_43 (rmG d) (va_Pc [.ref (q 43)] (preX dC dI q cI cT en S sz)) (va_Qv Post (atX dC dI q cI cT (va_A (wX q cI cT S) sz)) (va_A (wX q cI cT S) sz)) 0 0 (va_A (wX q cI cT S) sz)) (hR3 : ∀ (Post : XS → Prop) (S : XS) (sz : Nat), R 3 Post S → Met l yX3_parseChoice ww_X3_parseChoice_43 (rmG d) (va_Pc [.ref (q 43)] (preX dC dI q cI cT en S sz)) (va_Qv Post (atX dC dI q cI cT (va_A (wX q cI cT S) sz)) (va_A (wX q cI cT S) sz)) 0 0 (va_A (wX q cI cT S) sz)) (hR4 : ∀ (Post : XS → Prop) (S : XS) (sz : Nat), R 4 Post S → Met l yX3_parseEither ww_X3_parseEither_43 (rmG d) (va_Pc [.ref (q 43)] (preX dC dI q cI cT en S sz)) (va_Qv Post (atX dC dI q cI cT (va_A (wX q cI cT S) sz)) (va_A (wX q cI cT S) sz)) 0 0 (va_A (wX q cI cT S) sz)) (hR5 : ∀ (Post : XS → Prop) (S : XS) (sz : Nat), R 5 Post S → Met l yX3_parseBoth ww_X3_parseBoth_43 (rmG d) (va_Pc [.ref (q 43)] (preX dC dI q cI cT en S sz)) (va_Qv Post (atX dC dI q cI cT (va_A (wX q cI cT S) sz)) (va_A (wX q cI cT S) sz)) 0 0 (va_A (wX q cI cT S) sz)) (hR6 : ∀ (Post : XS → Prop) (S : XS) (sz : Nat), R 6 Post S → Met l yX3_parseAsk ww_X3_parseAsk_43 (rmG d) (va_Pc [.ref (q 43)] (preX dC dI q cI cT en S sz)) (va_Qv Post (atX dC dI q cI cT (va_A (wX q cI cT S) sz)) (va_A (wX q cI cT S) sz)) 0 0 (va_A (wX q cI cT S) sz)) {args : Array Value} {Post : XS → Prop} {K : Hd_X3_parseProduct_43 → XS → Prop} (X : XX p s m args c cX3_parseProduct 3 ww_X3_parseProduct_43 RX3 dC dI cI cT en A) (hr : meth.sig.returnType = none) (hlocks : meth.locks = false) (hK0 : ∀ (x1 : Int32) (S : XS), K (.inl x1) S → ∀ (H : Heap) (locs : List Loc), va_P (dC, dI) vwCl (wX q cI cT S) H → va_D A (wX q cI cT S) → va_S A s.heap H locs → ∀ ls : Array Slot, lv_has ls 3 [(0, .ref (q 43)), (1, .int x1)] → W p l e (headSpec ww_X3_parseProduct_43 (rmG (d + 1))).room s m args below meth c H locs 0 0 (MQ below (va_Qv Post (atX dC dI q cI cT A) A) args s 0 0 A) (F0 m 6 ls [])) (hK1 : ∀ (x1 : Int32) (S : XS), K (.inr x1) S → ∀ (H : Heap) (locs : List Loc), va_P (dC, dI) vwCl (wX q cI cT S) H → va_D A (wX q cI cT S) → va_S A s.heap H locs → ∀ ls : Array Slot, lv_has ls 3 [(0, .ref (q 43)), (1, .int x1)] → W p l e (headSpec ww_X3_parseProduct_43 (rmG (d + 1))).room s m args below meth c H locs 0 0 (MQ below (va_Qv Post (atX dC dI q cI cT A) A) args s 0 0 A) (F0 m 31 ls [])) (x1 : Int32) (S : XS) (h : B_X3_parseProduct_43 R Post K (.inr x1) S) : ∀ (H : Heap) (locs : List Loc), va_P (dC, dI) vwCl (wX q cI cT S) H → va_D A (wX q cI cT S) → va_S A s.heap H locs → ∀ ls : Array Slot, lv_has ls 3 [(0, .ref (q 43)), (1, .int x1)] → W p l e (headSpec ww_X3_parseProduct_43 (rmG (d + 1))).room s m args below meth c H locs 0 0 (MQ below (va_Qv Post (atX dC dI q cI cT A) A) args s 0 0 A) (F0 m 31 ls []) := by
  have hx := X.1
  have hb := X.2.1
  intro H locs hP hD hS ls hl
  have lk60 := X.2.2.2.2.1 (.fieldLink RX3 60 "BreathOnLoan$Parser" "token" "I") (inX 228 rfl)
  dsimp only [B_X3_parseProduct_43] at h
  refine lv_aload_n hx hb (dk DX3_parseProduct 15 rfl) rfl (lv_at hl 0 rfl) ?_
  refine gX_43 X hP 5 (by decide) rfl lk60 (dk DX3_parseProduct 16 rfl) ?_
  refine lv_topi (fun v2 ev2 => ?_)
  have h := h v2 ev2
  refine lv_istore_n (lv' := [(2, .int v2), (0, .ref (q 43)), (1, .int x1)]) hx hb (dk DX3_parseProduct 17 rfl) rfl hl (by decide) rfl (fun ls hl => ?_)
  refine lv_aload_n hx hb (dk DX3_parseProduct 18 rfl) rfl (lv_at hl 1 rfl) ?_
  refine cXv (As := []) (rest := []) X (m_X3_advance_43 (l := l) (dC := dC) (dI := dI) (q := q) (cI := cI) (cT := cT) (en := en) (sz := _) S h) (cwV 0 X.2.2.2.2.1 (gxV 318 319 320 231 312 rfl rfl rfl rfl rfl) rfl rfl rfl q_X3_advance_43 (rmG_c d (Nat.le_of_ble_eq_true rfl) (Nat.le_of_ble_eq_true rfl))) (rX_43 X hP) hP hD hS rfl hl.1 rfl (Nat.le_of_ble_eq_true rfl) (dk DX3_parseProduct 19 rfl) (fun S3 H locs h hP hD hS => ?_)
  refine lv_aload_n hx hb (dk DX3_parseProduct 20 rfl) rfl (lv_at hl 1 rfl) ?_
  refine cXv (As := []) (rest := []) X (hR2 _ _ _ h) (cwV 0 X.2.2.2.2.1 (gxV 362 363 364 231 358 rfl rfl rfl rfl rfl) rfl rfl rfl qG_2 ⟨rmG_f d, rmG_l d⟩) (rX_43 X hP) hP hD hS rfl hl.1 rfl (Nat.le_of_ble_eq_true rfl) (dk DX3_parseProduct 21 rfl) (fun S4 H locs h hP hD hS => ?_)
  refine lv_aload_n hx hb (dk DX3_parseProduct 22 rfl) rfl (lv_at hl 1 rfl) ?_
  refine lv_iload_n hx hb (dk DX3_parseProduct 23 rfl) rfl (lv_at hl 0 rfl) ?_
  refine lv_iconst (v := 0) hx hb (dk DX3_parseProduct 24 rfl) (by decide) ?_
  refine cXi (As := [.int v2, .int 0]) (rest := []) X (m_X3_emit_43 (l := l) (dC := dC) (dI := dI) (q := q) (cI := cI) (cT := cT) (en := en) (sz := _) v2 0 S4 h) (cwV 2 X.2.2.2.2.1 (gxV 330 331 332 231 322 rfl rfl rfl rfl rfl) rfl rfl rfl q_X3_emit_43 (rmG_c d (Nat.le_of_ble_eq_true rfl) (Nat.le_of_ble_eq_true rfl))) (rX_43 X hP) hP hD hS rfl hl.1 rfl (Nat.le_of_ble_eq_true rfl) (dk DX3_parseProduct 25 rfl) (fun r6 S5 H locs h hP hD hS => ?_)
  refine lv_pop hx hb (dk DX3_parseProduct 26 rfl) rfl ?_
  obtain ⟨v7, ev7⟩ : ∃ y : Int32, y = x1 + 1 := ⟨_, rfl⟩
  have h := h v7 ev7
  refine lv_iinc (v := v7) (lv' := [(1, .int v7), (2, .int v2), (0, .ref (q 43))]) hx hb (dk DX3_parseProduct 27 rfl) hl (k := 2) rfl (by rw [ev7]; rfl) (by decide) rfl (fun ls hl => ?_)
  refine lv_goto (tgt := 6) hx hb (dk DX3_parseProduct 28 rfl) (by decide) ?_
  exact hK0 v7 S5 h _ _ hP hD hS ls (lv_sub hl [2, 0] rfl)
set_option maxHeartbeats 4000000 in
set_option maxRecDepth 100000 in
theorem m_X3_parseProduct_43 {l : Launch} {dC : Nat → ClassId} {dI : Nat → Nat → Nat} {q : Nat → Nat} {cI cT : ClassId} {en : Nat → Nat} {sz : Nat} {Post : XS → Prop} {R : Nat → (XS → Prop) → XS → Prop} {d : Nat} (hR0 : ∀ (Post : XS → Prop) (S : XS) (sz : Nat), R 0 Post S → Met l yX3_parseSum ww_X3_parseSum_43 (rmG d) (va_Pc [.ref (q 43)] (preX dC dI q cI cT en S sz)) (va_Qv Post (atX dC dI q cI cT (va_A (wX q cI cT S) sz)) (va_A (wX q cI cT S) sz)) 0 0 (va_A (wX q cI cT S) sz)) (hR1 : ∀ (Post : XS → Prop) (S : XS) (sz : Nat), R 1 Post S → Met l yX3_parseProduct ww_X3_parseProduct_43 (rmG d) (va_Pc [.ref (q 43)] (preX dC dI q cI cT en S sz)) (va_Qv Post (atX dC dI q cI cT (va_A (wX q cI cT S) sz)) (va_A (wX q cI cT S) sz)) 0 0 (va_A (wX q cI cT S) sz)) (hR2 : ∀ (Post : XS → Prop) (S : XS) (sz : Nat), R 2 Post S → Met l yX3_parseOne ww_X3_parseOne_43 (rmG d) (va_Pc [.ref (q 43)] (preX dC dI q cI cT en S sz)) (va_Qv Post (atX dC dI q cI cT (va_A (wX q cI cT S) sz)) (va_A (wX q cI cT S) sz)) 0 0 (va_A (wX q cI cT S) sz)) (hR3 : ∀ (Post : XS → Prop) (S : XS) (sz : Nat), R 3 Post S → Met l yX3_parseChoice ww_X3_parseChoice_43 (rmG d) (va_Pc [.ref (q 43)] (preX dC dI q cI cT en S sz)) (va_Qv Post (atX dC dI q cI cT (va_A (wX q cI cT S) sz)) (va_A (wX q cI cT S) sz)) 0 0 (va_A (wX q cI cT S) sz)) (hR4 : ∀ (Post : XS → Prop) (S : XS) (sz : Nat), R 4 Post S → Met l yX3_parseEither ww_X3_parseEither_43 (rmG d) (va_Pc [.ref (q 43)] (preX dC dI q cI cT en S sz)) (va_Qv Post (atX dC dI q cI cT (va_A (wX q cI cT S) sz)) (va_A (wX q cI cT S) sz)) 0 0 (va_A (wX q cI cT S) sz)) (hR5 : ∀ (Post : XS → Prop) (S : XS) (sz : Nat), R 5 Post S → Met l yX3_parseBoth ww_X3_parseBoth_43 (rmG d) (va_Pc [.ref (q 43)] (preX dC dI q cI cT en S sz)) (va_Qv Post (atX dC dI q cI cT (va_A (wX q cI cT S) sz)) (va_A (wX q cI cT S) sz)) 0 0 (va_A (wX q cI cT S) sz)) (hR6 : ∀ (Post : XS → Prop) (S : XS) (sz : Nat), R 6 Post S → Met l yX3_parseAsk ww_X3_parseAsk_43 (rmG d) (va_Pc [.ref (q 43)] (preX dC dI q cI cT en S sz)) (va_Qv Post (atX dC dI q cI cT (va_A (wX q cI cT S) sz)) (va_A (wX q cI cT S) sz)) 0 0 (va_A (wX q cI cT S) sz)) (S : XS) (h : VC_X3_parseProduct_43 R Post S) : Met l yX3_parseProduct ww_X3_parseProduct_43 (rmG (d + 1)) (va_Pc [.ref (q 43)] (preX dC dI q cI cT en S sz)) (va_Qv Post (atX dC dI q cI cT (va_A (wX q cI cT S) sz)) (va_A (wX q cI cT S) sz)) 0 0 (va_A (wX q cI cT S) sz) := by
  refine oX (cc := cX3_parseProduct) (maxL := 3) (ret := none) (Qc := fun A => va_Qv Post (atX dC dI q cI cT A) A) (own := RX3) (by decide) rfl (fun w h => List.mem_cons_of_mem _ (List.mem_append_right _ h)) rfl (Nat.le_of_ble_eq_true rfl) (fun p e s m below meth c A ls X hr hlocks hP hD hS hl => ?_)
  have hx := X.1
  have hb := X.2.1
  have hl : lv_has ls 3 [(0, .ref (q 43))] := hl
  have lk60 := X.2.2.2.2.1 (.fieldLink RX3 60 "BreathOnLoan$Parser" "token" "I") (inX 228 rfl)
  generalize hargs : ([.ref (q 43)] : List Value).toArray = args at X ⊢
  have h := h (fun hd S => match hd with | (.inl x1) => ∀ (H : Heap) (locs : List Loc), va_P (dC, dI) vwCl (wX q cI cT S) H → va_D A (wX q cI cT S) → va_S A s.heap H locs → ∀ ls : Array Slot, lv_has ls 3 [(0, .ref (q 43)), (1, .int x1)] → W p l e (headSpec ww_X3_parseProduct_43 (rmG (d + 1))).room s m args below meth c H locs 0 0 (MQ below (va_Qv Post (atX dC dI q cI cT A) A) args s 0 0 A) (F0 m 6 ls []) | (.inr x1) => ∀ (H : Heap) (locs : List Loc), va_P (dC, dI) vwCl (wX q cI cT S) H → va_D A (wX q cI cT S) → va_S A s.heap H locs → ∀ ls : Array Slot, lv_has ls 3 [(0, .ref (q 43)), (1, .int x1)] → W p l e (headSpec ww_X3_parseProduct_43 (rmG (d + 1))).room s m args below meth c H locs 0 0 (MQ below (va_Qv Post (atX dC dI q cI cT A) A) args s 0 0 A) (F0 m 31 ls [])) ?_
  · skip
    refine lv_aload_n hx hb (dk DX3_parseProduct 0 rfl) rfl (lv_at hl 0 rfl) ?_
    refine cXv (As := []) (rest := []) X (hR2 _ _ _ h) (cwV 0 X.2.2.2.2.1 (gxV 362 363 364 231 358 rfl rfl rfl rfl rfl) rfl rfl rfl qG_2 ⟨rmG_f d, rmG_l d⟩) (rX_43 X hP) hP hD hS rfl hl.1 rfl (Nat.le_of_ble_eq_true rfl) (dk DX3_parseProduct 1 rfl) (fun S1 H locs h hP hD hS => ?_)
    refine lv_iconst (v := 0) hx hb (dk DX3_parseProduct 2 rfl) (by decide) ?_
    refine lv_istore_n (lv' := [(1, .int 0), (0, .ref (q 43))]) hx hb (dk DX3_parseProduct 3 rfl) rfl hl (by decide) rfl (fun ls hl => ?_)
    exact h _ _ hP hD hS ls (lv_sub hl [1, 0] rfl)
  · rintro (x1 | x1) S hB
    · exact h_X3_parseProduct_43_0 hR0 hR1 hR2 hR3 hR4 hR5 hR6 X hr hlocks (hK0 := fun _ _ h => h) (hK1 := fun _ _ h => h) x1 S hB
    · exact h_X3_parseProduct_43_1 hR0 hR1 hR2 hR3 hR4 hR5 hR6 X hr hlocks (hK0 := fun _ _ h => h) (hK1 := fun _ _ h => h) x1 S hB

def VC_X3_parseOne_43 (R : Nat → (XS → Prop) → XS → Prop) (Post : XS → Prop) (S : XS) : Prop := (((S.1 1381) = 5 → VC_X3_enter_43 (fun S1 => R 2 (fun S2 => VC_X3_emit_43 (fun r4 S3 => ∀ v5 : Int32, v5 = (S3.1 1384) - 1 → ∀ S6 : XS, S6 = xI S3 1384 v5 → Post S6) 64 0 S2) S1) S) ∧ ((S.1 1381) = 8 → VC_X3_enter_43 (fun S7 => R 0 (fun S8 => VC_X3_expect_43 (fun S9 => ∀ v10 : Int32, v10 = (S9.1 1384) - 1 → ∀ S11 : XS, S11 = xI S9 1384 v10 → Post S11) 9 S8) S7) S) ∧ ((S.1 1381) = 15 → VC_X3_number_43 (fun r13 S12 => VC_X3_emit_43 (fun r15 S14 => Post S14) 60 r13 S12) 0 9999 S) ∧ ((S.1 1381) = 41 → R 3 (fun S16 => Post S16) S) ∧ (¬ (S.1 1381) = 5 → ¬ (S.1 1381) = 8 → ¬ (S.1 1381) = 15 → ¬ (S.1 1381) = 41 → VC_X3_parseName_43 (fun S17 => Post S17) S))
set_option maxHeartbeats 4000000 in
set_option maxRecDepth 100000 in
theorem m_X3_parseOne_43 {l : Launch} {dC : Nat → ClassId} {dI : Nat → Nat → Nat} {q : Nat → Nat} {cI cT : ClassId} {en : Nat → Nat} {sz : Nat} {Post : XS → Prop} {R : Nat → (XS → Prop) → XS → Prop} {d : Nat} (hR0 : ∀ (Post : XS → Prop) (S : XS) (sz : Nat), R 0 Post S → Met l yX3_parseSum ww_X3_parseSum_43 (rmG d) (va_Pc [.ref (q 43)] (preX dC dI q cI cT en S sz)) (va_Qv Post (atX dC dI q cI cT (va_A (wX q cI cT S) sz)) (va_A (wX q cI cT S) sz)) 0 0 (va_A (wX q cI cT S) sz)) (hR1 : ∀ (Post : XS → Prop) (S : XS) (sz : Nat), R 1 Post S → Met l yX3_parseProduct ww_X3_parseProduct_43 (rmG d) (va_Pc [.ref (q 43)] (preX dC dI q cI cT en S sz)) (va_Qv Post (atX dC dI q cI cT (va_A (wX q cI cT S) sz)) (va_A (wX q cI cT S) sz)) 0 0 (va_A (wX q cI cT S) sz)) (hR2 : ∀ (Post : XS → Prop) (S : XS) (sz : Nat), R 2 Post S → Met l yX3_parseOne ww_X3_parseOne_43 (rmG d) (va_Pc [.ref (q 43)] (preX dC dI q cI cT en S sz)) (va_Qv Post (atX dC dI q cI cT (va_A (wX q cI cT S) sz)) (va_A (wX q cI cT S) sz)) 0 0 (va_A (wX q cI cT S) sz)) (hR3 : ∀ (Post : XS → Prop) (S : XS) (sz : Nat), R 3 Post S → Met l yX3_parseChoice ww_X3_parseChoice_43 (rmG d) (va_Pc [.ref (q 43)] (preX dC dI q cI cT en S sz)) (va_Qv Post (atX dC dI q cI cT (va_A (wX q cI cT S) sz)) (va_A (wX q cI cT S) sz)) 0 0 (va_A (wX q cI cT S) sz)) (hR4 : ∀ (Post : XS → Prop) (S : XS) (sz : Nat), R 4 Post S → Met l yX3_parseEither ww_X3_parseEither_43 (rmG d) (va_Pc [.ref (q 43)] (preX dC dI q cI cT en S sz)) (va_Qv Post (atX dC dI q cI cT (va_A (wX q cI cT S) sz)) (va_A (wX q cI cT S) sz)) 0 0 (va_A (wX q cI cT S) sz)) (hR5 : ∀ (Post : XS → Prop) (S : XS) (sz : Nat), R 5 Post S → Met l yX3_parseBoth ww_X3_parseBoth_43 (rmG d) (va_Pc [.ref (q 43)] (preX dC dI q cI cT en S sz)) (va_Qv Post (atX dC dI q cI cT (va_A (wX q cI cT S) sz)) (va_A (wX q cI cT S) sz)) 0 0 (va_A (wX q cI cT S) sz)) (hR6 : ∀ (Post : XS → Prop) (S : XS) (sz : Nat), R 6 Post S → Met l yX3_parseAsk ww_X3_parseAsk_43 (rmG d) (va_Pc [.ref (q 43)] (preX dC dI q cI cT en S sz)) (va_Qv Post (atX dC dI q cI cT (va_A (wX q cI cT S) sz)) (va_A (wX q cI cT S) sz)) 0 0 (va_A (wX q cI cT S) sz)) (S : XS) (h : VC_X3_parseOne_43 R Post S) : Met l yX3_parseOne ww_X3_parseOne_43 (rmG (d + 1)) (va_Pc [.ref (q 43)] (preX dC dI q cI cT en S sz)) (va_Qv Post (atX dC dI q cI cT (va_A (wX q cI cT S) sz)) (va_A (wX q cI cT S) sz)) 0 0 (va_A (wX q cI cT S) sz) := by
  refine oX (cc := cX3_parseOne) (maxL := 1) (ret := none) (Qc := fun A => va_Qv Post (atX dC dI q cI cT A) A) (own := RX3) (by decide) rfl (fun w h => List.mem_cons_of_mem _ (List.mem_append_right _ h)) rfl (Nat.le_of_ble_eq_true rfl) (fun p e s m below meth c A ls X hr hlocks hP hD hS hl => ?_)
  have hx := X.1
  have hb := X.2.1
  have hl : lv_has ls 1 [(0, .ref (q 43))] := hl
  have lk60 := X.2.2.2.2.1 (.fieldLink RX3 60 "BreathOnLoan$Parser" "token" "I") (inX 228 rfl)
  have lk42 := X.2.2.2.2.1 (.fieldLink RX3 42 "BreathOnLoan$Parser" "open" "I") (inX 314 rfl)
  dsimp only [VC_X3_parseOne_43] at h
  refine lv_aload_n hx hb (dk DX3_parseOne 0 rfl) rfl (lv_at hl 0 rfl) ?_
  refine gX_43 X hP 5 (by decide) rfl lk60 (dk DX3_parseOne 1 rfl) ?_
  by_cases hc5 : (S.1 1381) = 5
  · have h := h.1 hc5
    refine lv_lookup (off := 89) (tgt := 93) hx hb (dk DX3_parseOne 2 rfl) (by decide) (by rw [hc5]; decide) (by decide) ?_
    refine lv_aload_n hx hb (dk DX3_parseOne 26 rfl) rfl (lv_at hl 0 rfl) ?_
    refine cXv (As := []) (rest := []) X (m_X3_enter_43 (l := l) (dC := dC) (dI := dI) (q := q) (cI := cI) (cT := cT) (en := en) (sz := _) S h) (cwV 0 X.2.2.2.2.1 (gxV 334 335 336 231 321 rfl rfl rfl rfl rfl) rfl rfl rfl q_X3_enter_43 (rmG_c d (Nat.le_of_ble_eq_true rfl) (Nat.le_of_ble_eq_true rfl))) (rX_43 X hP) hP hD hS rfl hl.1 rfl (Nat.le_of_ble_eq_true rfl) (dk DX3_parseOne 27 rfl) (fun S1 H locs h hP hD hS => ?_)
    refine lv_aload_n hx hb (dk DX3_parseOne 28 rfl) rfl (lv_at hl 0 rfl) ?_
    refine cXv (As := []) (rest := []) X (hR2 _ _ _ h) (cwV 0 X.2.2.2.2.1 (gxV 362 363 364 231 358 rfl rfl rfl rfl rfl) rfl rfl rfl qG_2 ⟨rmG_f d, rmG_l d⟩) (rX_43 X hP) hP hD hS rfl hl.1 rfl (Nat.le_of_ble_eq_true rfl) (dk DX3_parseOne 29 rfl) (fun S2 H locs h hP hD hS => ?_)
    refine lv_aload_n hx hb (dk DX3_parseOne 30 rfl) rfl (lv_at hl 0 rfl) ?_
    refine lv_bipush (v := 64) hx hb (dk DX3_parseOne 31 rfl) (by decide) ?_
    refine lv_iconst (v := 0) hx hb (dk DX3_parseOne 32 rfl) (by decide) ?_
    refine cXi (As := [.int 64, .int 0]) (rest := []) X (m_X3_emit_43 (l := l) (dC := dC) (dI := dI) (q := q) (cI := cI) (cT := cT) (en := en) (sz := _) 64 0 S2 h) (cwV 2 X.2.2.2.2.1 (gxV 330 331 332 231 322 rfl rfl rfl rfl rfl) rfl rfl rfl q_X3_emit_43 (rmG_c d (Nat.le_of_ble_eq_true rfl) (Nat.le_of_ble_eq_true rfl))) (rX_43 X hP) hP hD hS rfl hl.1 rfl (Nat.le_of_ble_eq_true rfl) (dk DX3_parseOne 33 rfl) (fun r4 S3 H locs h hP hD hS => ?_)
    refine lv_pop hx hb (dk DX3_parseOne 34 rfl) rfl ?_
    refine lv_aload_n hx hb (dk DX3_parseOne 35 rfl) rfl (lv_at hl 0 rfl) ?_
    refine lv_dup hx hb (dk DX3_parseOne 36 rfl) rfl ?_
    refine gX_43 X hP 8 (by decide) rfl lk42 (dk DX3_parseOne 37 rfl) ?_
    refine lv_iconst (v := 1) hx hb (dk DX3_parseOne 38 rfl) (by decide) ?_
    refine lv_isub hx hb (dk DX3_parseOne 39 rfl) ?_
    refine lv_topi (fun v5 ev5 => ?_)
    have h := h v5 ev5
    refine pX_43_8 X hP hD hS lk42 (dk DX3_parseOne 40 rfl) (fun S6 eS6 H locs hP hD hS => ?_)
    have h := h S6 eS6
    refine lv_goto (tgt := 133) hx hb (dk DX3_parseOne 41 rfl) (by decide) ?_
    exact W.vret hx hb hr (fun t ht hW => ⟨⟨_, rfl, h, by rw [ht]; exact hP, va_K.moved hW.alike X.2.2.2.2.2.2.1, hD⟩, hS.F ht⟩) hS.2.2 (dk DX3_parseOne 47 rfl)
  have h := h.2
  by_cases hc8 : (S.1 1381) = 8
  · have h := h.1 hc8
    refine lv_lookup (off := 62) (tgt := 66) hx hb (dk DX3_parseOne 2 rfl) (by decide) (by rw [hc8]; decide) (by decide) ?_
    refine lv_aload_n hx hb (dk DX3_parseOne 12 rfl) rfl (lv_at hl 0 rfl) ?_
    refine cXv (As := []) (rest := []) X (m_X3_enter_43 (l := l) (dC := dC) (dI := dI) (q := q) (cI := cI) (cT := cT) (en := en) (sz := _) S h) (cwV 0 X.2.2.2.2.1 (gxV 334 335 336 231 321 rfl rfl rfl rfl rfl) rfl rfl rfl q_X3_enter_43 (rmG_c d (Nat.le_of_ble_eq_true rfl) (Nat.le_of_ble_eq_true rfl))) (rX_43 X hP) hP hD hS rfl hl.1 rfl (Nat.le_of_ble_eq_true rfl) (dk DX3_parseOne 13 rfl) (fun S7 H locs h hP hD hS => ?_)
    refine lv_aload_n hx hb (dk DX3_parseOne 14 rfl) rfl (lv_at hl 0 rfl) ?_
    refine cXv (As := []) (rest := []) X (hR0 _ _ _ h) (cwV 0 X.2.2.2.2.1 (gxV 340 341 342 231 372 rfl rfl rfl rfl rfl) rfl rfl rfl qG_0 ⟨rmG_f d, rmG_l d⟩) (rX_43 X hP) hP hD hS rfl hl.1 rfl (Nat.le_of_ble_eq_true rfl) (dk DX3_parseOne 15 rfl) (fun S8 H locs h hP hD hS => ?_)
    refine lv_aload_n hx hb (dk DX3_parseOne 16 rfl) rfl (lv_at hl 0 rfl) ?_
    refine lv_bipush (v := 9) hx hb (dk DX3_parseOne 17 rfl) (by decide) ?_
    refine cXv (As := [.int 9]) (rest := []) X (m_X3_expect_43 (l := l) (dC := dC) (dI := dI) (q := q) (cI := cI) (cT := cT) (en := en) (sz := _) 9 S8 h) (cwV 1 X.2.2.2.2.1 (gxV 348 349 350 231 325 rfl rfl rfl rfl rfl) rfl rfl rfl q_X3_expect_43 (rmG_c d (Nat.le_of_ble_eq_true rfl) (Nat.le_of_ble_eq_true rfl))) (rX_43 X hP) hP hD hS rfl hl.1 rfl (Nat.le_of_ble_eq_true rfl) (dk DX3_parseOne 18 rfl) (fun S9 H locs h hP hD hS => ?_)
    refine lv_aload_n hx hb (dk DX3_parseOne 19 rfl) rfl (lv_at hl 0 rfl) ?_
    refine lv_dup hx hb (dk DX3_parseOne 20 rfl) rfl ?_
    refine gX_43 X hP 8 (by decide) rfl lk42 (dk DX3_parseOne 21 rfl) ?_
    refine lv_iconst (v := 1) hx hb (dk DX3_parseOne 22 rfl) (by decide) ?_
    refine lv_isub hx hb (dk DX3_parseOne 23 rfl) ?_
    refine lv_topi (fun v10 ev10 => ?_)
    have h := h v10 ev10
    refine pX_43_8 X hP hD hS lk42 (dk DX3_parseOne 24 rfl) (fun S11 eS11 H locs hP hD hS => ?_)
    have h := h S11 eS11
    refine lv_goto (tgt := 133) hx hb (dk DX3_parseOne 25 rfl) (by decide) ?_
    exact W.vret hx hb hr (fun t ht hW => ⟨⟨_, rfl, h, by rw [ht]; exact hP, va_K.moved hW.alike X.2.2.2.2.2.2.1, hD⟩, hS.F ht⟩) hS.2.2 (dk DX3_parseOne 47 rfl)
  have h := h.2
  by_cases hc15 : (S.1 1381) = 15
  · have h := h.1 hc15
    refine lv_lookup (off := 44) (tgt := 48) hx hb (dk DX3_parseOne 2 rfl) (by decide) (by rw [hc15]; decide) (by decide) ?_
    refine lv_aload_n hx hb (dk DX3_parseOne 3 rfl) rfl (lv_at hl 0 rfl) ?_
    refine lv_bipush (v := 60) hx hb (dk DX3_parseOne 4 rfl) (by decide) ?_
    refine lv_aload_n hx hb (dk DX3_parseOne 5 rfl) rfl (lv_at hl 0 rfl) ?_
    refine lv_iconst (v := 0) hx hb (dk DX3_parseOne 6 rfl) (by decide) ?_
    refine lv_sipush (v := 9999) hx hb (dk DX3_parseOne 7 rfl) (by decide) ?_
    refine cXi (As := [.int 0, .int 9999]) (rest := [.int 60, .ref (q 43)]) X (m_X3_number_43 (l := l) (dC := dC) (dI := dI) (q := q) (cI := cI) (cT := cT) (en := en) (sz := _) 0 9999 S h) (cwV 2 X.2.2.2.2.1 (gxV 359 360 361 231 328 rfl rfl rfl rfl rfl) rfl rfl rfl q_X3_number_43 (rmG_c d (Nat.le_of_ble_eq_true rfl) (Nat.le_of_ble_eq_true rfl))) (rX_43 X hP) hP hD hS rfl hl.1 rfl (Nat.le_of_ble_eq_true rfl) (dk DX3_parseOne 8 rfl) (fun r13 S12 H locs h hP hD hS => ?_)
    refine cXi (As := [.int 60, .int r13]) (rest := []) X (m_X3_emit_43 (l := l) (dC := dC) (dI := dI) (q := q) (cI := cI) (cT := cT) (en := en) (sz := _) 60 r13 S12 h) (cwV 2 X.2.2.2.2.1 (gxV 330 331 332 231 322 rfl rfl rfl rfl rfl) rfl rfl rfl q_X3_emit_43 (rmG_c d (Nat.le_of_ble_eq_true rfl) (Nat.le_of_ble_eq_true rfl))) (rX_43 X hP) hP hD hS rfl hl.1 rfl (Nat.le_of_ble_eq_true rfl) (dk DX3_parseOne 9 rfl) (fun r15 S14 H locs h hP hD hS => ?_)
    refine lv_pop hx hb (dk DX3_parseOne 10 rfl) rfl ?_
    refine lv_goto (tgt := 133) hx hb (dk DX3_parseOne 11 rfl) (by decide) ?_
    exact W.vret hx hb hr (fun t ht hW => ⟨⟨_, rfl, h, by rw [ht]; exact hP, va_K.moved hW.alike X.2.2.2.2.2.2.1, hD⟩, hS.F ht⟩) hS.2.2 (dk DX3_parseOne 47 rfl)
  have h := h.2
  by_cases hc41 : (S.1 1381) = 41
  · have h := h.1 hc41
    refine lv_lookup (off := 118) (tgt := 122) hx hb (dk DX3_parseOne 2 rfl) (by decide) (by rw [hc41]; decide) (by decide) ?_
    refine lv_aload_n hx hb (dk DX3_parseOne 42 rfl) rfl (lv_at hl 0 rfl) ?_
    refine cXv (As := []) (rest := []) X (hR3 _ _ _ h) (cwV 0 X.2.2.2.2.1 (gxV 365 366 367 231 344 rfl rfl rfl rfl rfl) rfl rfl rfl qG_3 ⟨rmG_f d, rmG_l d⟩) (rX_43 X hP) hP hD hS rfl hl.1 rfl (Nat.le_of_ble_eq_true rfl) (dk DX3_parseOne 43 rfl) (fun S16 H locs h hP hD hS => ?_)
    refine lv_goto (tgt := 133) hx hb (dk DX3_parseOne 44 rfl) (by decide) ?_
    exact W.vret hx hb hr (fun t ht hW => ⟨⟨_, rfl, h, by rw [ht]; exact hP, va_K.moved hW.alike X.2.2.2.2.2.2.1, hD⟩, hS.F ht⟩) hS.2.2 (dk DX3_parseOne 47 rfl)
  have h := h.2
  have h := h hc5 hc8 hc15 hc41
  refine lv_lookup (off := 125) (tgt := 129) hx hb (dk DX3_parseOne 2 rfl) (by decide) (by show Op.lookupswitch.offset [(5, 89), (8, 62), (15, 44), (41, 118)] 125 _ = 125; rw [lv_osw hc5 (by decide), lv_osw hc8 (by decide), lv_osw hc15 (by decide), lv_osw hc41 (by decide)]; rfl) (by decide) ?_
  refine lv_aload_n hx hb (dk DX3_parseOne 45 rfl) rfl (lv_at hl 0 rfl) ?_
  refine cXv (As := []) (rest := []) X (m_X3_parseName_43 (l := l) (dC := dC) (dI := dI) (q := q) (cI := cI) (cT := cT) (en := en) (sz := _) S h) (cwV 0 X.2.2.2.2.1 (gxV 368 369 370 231 333 rfl rfl rfl rfl rfl) rfl rfl rfl q_X3_parseName_43 (rmG_c d (Nat.le_of_ble_eq_true rfl) (Nat.le_of_ble_eq_true rfl))) (rX_43 X hP) hP hD hS rfl hl.1 rfl (Nat.le_of_ble_eq_true rfl) (dk DX3_parseOne 46 rfl) (fun S17 H locs h hP hD hS => ?_)
  exact W.vret hx hb hr (fun t ht hW => ⟨⟨_, rfl, h, by rw [ht]; exact hP, va_K.moved hW.alike X.2.2.2.2.2.2.1, hD⟩, hS.F ht⟩) hS.2.2 (dk DX3_parseOne 47 rfl)

