-- X3_parseChoice_43 X3_parseEither_43 X3_parseBoth_43 X3_parseAsk_43 GROUP1
def VC_X3_parseChoice_43 (R : Nat → (XS → Prop) → XS → Prop) (Post : XS → Prop) (S : XS) : Prop := VC_X3_enter_43 (fun S1 => R 4 (fun S2 => VC_X3_expect_43 (fun S3 => VC_X3_emit_43 (fun r5 S4 => R 0 (fun S6 => VC_X3_expect_43 (fun S7 => VC_X3_emit_43 (fun r9 S8 => VC_X3_aim_43 (fun S10 => R 0 (fun S11 => VC_X3_aim_43 (fun S12 => VC_X3_expect_43 (fun S13 => ∀ v14 : Int32, v14 = (S13.1 1384) - 1 → ∀ S15 : XS, S15 = xI S13 1384 v14 → Post S15) 42 S12) r9 S11) S10) r5 S8) 62 0 S7) 12 S6) S4) 63 0 S3) 11 S2) S1) S
set_option maxHeartbeats 4000000 in
set_option maxRecDepth 100000 in
theorem m_X3_parseChoice_43 {l : Launch} {dC : Nat → ClassId} {dI : Nat → Nat → Nat} {q : Nat → Nat} {cI cT : ClassId} {en : Nat → Nat} {sz : Nat} {Post : XS → Prop} {R : Nat → (XS → Prop) → XS → Prop} {d : Nat} (hR0 : ∀ (Post : XS → Prop) (S : XS) (sz : Nat), R 0 Post S → Met l yX3_parseSum ww_X3_parseSum_43 (rmG d) (va_Pc [.ref (q 43)] (preX dC dI q cI cT en S sz)) (va_Qv Post (atX dC dI q cI cT (va_A (wX q cI cT S) sz)) (va_A (wX q cI cT S) sz)) 0 0 (va_A (wX q cI cT S) sz)) (hR1 : ∀ (Post : XS → Prop) (S : XS) (sz : Nat), R 1 Post S → Met l yX3_parseProduct ww_X3_parseProduct_43 (rmG d) (va_Pc [.ref (q 43)] (preX dC dI q cI cT en S sz)) (va_Qv Post (atX dC dI q cI cT (va_A (wX q cI cT S) sz)) (va_A (wX q cI cT S) sz)) 0 0 (va_A (wX q cI cT S) sz)) (hR2 : ∀ (Post : XS → Prop) (S : XS) (sz : Nat), R 2 Post S → Met l yX3_parseOne ww_X3_parseOne_43 (rmG d) (va_Pc [.ref (q 43)] (preX dC dI q cI cT en S sz)) (va_Qv Post (atX dC dI q cI cT (va_A (wX q cI cT S) sz)) (va_A (wX q cI cT S) sz)) 0 0 (va_A (wX q cI cT S) sz)) (hR3 : ∀ (Post : XS → Prop) (S : XS) (sz : Nat), R 3 Post S → Met l yX3_parseChoice ww_X3_parseChoice_43 (rmG d) (va_Pc [.ref (q 43)] (preX dC dI q cI cT en S sz)) (va_Qv Post (atX dC dI q cI cT (va_A (wX q cI cT S) sz)) (va_A (wX q cI cT S) sz)) 0 0 (va_A (wX q cI cT S) sz)) (hR4 : ∀ (Post : XS → Prop) (S : XS) (sz : Nat), R 4 Post S → Met l yX3_parseEither ww_X3_parseEither_43 (rmG d) (va_Pc [.ref (q 43)] (preX dC dI q cI cT en S sz)) (va_Qv Post (atX dC dI q cI cT (va_A (wX q cI cT S) sz)) (va_A (wX q cI cT S) sz)) 0 0 (va_A (wX q cI cT S) sz)) (hR5 : ∀ (Post : XS → Prop) (S : XS) (sz : Nat), R 5 Post S → Met l yX3_parseBoth ww_X3_parseBoth_43 (rmG d) (va_Pc [.ref (q 43)] (preX dC dI q cI cT en S sz)) (va_Qv Post (atX dC dI q cI cT (va_A (wX q cI cT S) sz)) (va_A (wX q cI cT S) sz)) 0 0 (va_A (wX q cI cT S) sz)) (hR6 : ∀ (Post : XS → Prop) (S : XS) (sz : Nat), R 6 Post S → Met l yX3_parseAsk ww_X3_parseAsk_43 (rmG d) (va_Pc [.ref (q 43)] (preX dC dI q cI cT en S sz)) (va_Qv Post (atX dC dI q cI cT (va_A (wX q cI cT S) sz)) (va_A (wX q cI cT S) sz)) 0 0 (va_A (wX q cI cT S) sz)) (S : XS) (h : VC_X3_parseChoice_43 R Post S) : Met l yX3_parseChoice ww_X3_parseChoice_43 (rmG (d + 1)) (va_Pc [.ref (q 43)] (preX dC dI q cI cT en S sz)) (va_Qv Post (atX dC dI q cI cT (va_A (wX q cI cT S) sz)) (va_A (wX q cI cT S) sz)) 0 0 (va_A (wX q cI cT S) sz) := by
  refine oX (cc := cX3_parseChoice) (maxL := 3) (ret := none) (Qc := fun A => va_Qv Post (atX dC dI q cI cT A) A) (own := RX3) (by decide) rfl (fun w h => List.mem_cons_of_mem _ (List.mem_append_right _ h)) rfl (Nat.le_of_ble_eq_true rfl) (fun p e s m below meth c A ls X hr hlocks hP hD hS hl => ?_)
  have hx := X.1
  have hb := X.2.1
  have hl : lv_has ls 3 [(0, .ref (q 43))] := hl
  have lk42 := X.2.2.2.2.1 (.fieldLink RX3 42 "BreathOnLoan$Parser" "open" "I") (inX 314 rfl)
  dsimp only [VC_X3_parseChoice_43] at h
  refine lv_aload_n hx hb (dk DX3_parseChoice 0 rfl) rfl (lv_at hl 0 rfl) ?_
  refine cXv (As := []) (rest := []) X (m_X3_enter_43 (l := l) (dC := dC) (dI := dI) (q := q) (cI := cI) (cT := cT) (en := en) (sz := _) S h) (cwV 0 X.2.2.2.2.1 (gxV 334 335 336 231 321 rfl rfl rfl rfl rfl) rfl rfl rfl q_X3_enter_43 (rmG_c d (Nat.le_of_ble_eq_true rfl) (Nat.le_of_ble_eq_true rfl))) (rX_43 X hP) hP hD hS rfl hl.1 rfl (Nat.le_of_ble_eq_true rfl) (dk DX3_parseChoice 1 rfl) (fun S1 H locs h hP hD hS => ?_)
  refine lv_aload_n hx hb (dk DX3_parseChoice 2 rfl) rfl (lv_at hl 0 rfl) ?_
  refine cXv (As := []) (rest := []) X (hR4 _ _ _ h) (cwV 0 X.2.2.2.2.1 (gxV 345 346 347 231 354 rfl rfl rfl rfl rfl) rfl rfl rfl qG_4 ⟨rmG_f d, rmG_l d⟩) (rX_43 X hP) hP hD hS rfl hl.1 rfl (Nat.le_of_ble_eq_true rfl) (dk DX3_parseChoice 3 rfl) (fun S2 H locs h hP hD hS => ?_)
  refine lv_aload_n hx hb (dk DX3_parseChoice 4 rfl) rfl (lv_at hl 0 rfl) ?_
  refine lv_bipush (v := 11) hx hb (dk DX3_parseChoice 5 rfl) (by decide) ?_
  refine cXv (As := [.int 11]) (rest := []) X (m_X3_expect_43 (l := l) (dC := dC) (dI := dI) (q := q) (cI := cI) (cT := cT) (en := en) (sz := _) 11 S2 h) (cwV 1 X.2.2.2.2.1 (gxV 348 349 350 231 325 rfl rfl rfl rfl rfl) rfl rfl rfl q_X3_expect_43 (rmG_c d (Nat.le_of_ble_eq_true rfl) (Nat.le_of_ble_eq_true rfl))) (rX_43 X hP) hP hD hS rfl hl.1 rfl (Nat.le_of_ble_eq_true rfl) (dk DX3_parseChoice 6 rfl) (fun S3 H locs h hP hD hS => ?_)
  refine lv_aload_n hx hb (dk DX3_parseChoice 7 rfl) rfl (lv_at hl 0 rfl) ?_
  refine lv_bipush (v := 63) hx hb (dk DX3_parseChoice 8 rfl) (by decide) ?_
  refine lv_iconst (v := 0) hx hb (dk DX3_parseChoice 9 rfl) (by decide) ?_
  refine cXi (As := [.int 63, .int 0]) (rest := []) X (m_X3_emit_43 (l := l) (dC := dC) (dI := dI) (q := q) (cI := cI) (cT := cT) (en := en) (sz := _) 63 0 S3 h) (cwV 2 X.2.2.2.2.1 (gxV 330 331 332 231 322 rfl rfl rfl rfl rfl) rfl rfl rfl q_X3_emit_43 (rmG_c d (Nat.le_of_ble_eq_true rfl) (Nat.le_of_ble_eq_true rfl))) (rX_43 X hP) hP hD hS rfl hl.1 rfl (Nat.le_of_ble_eq_true rfl) (dk DX3_parseChoice 10 rfl) (fun r5 S4 H locs h hP hD hS => ?_)
  refine lv_istore_n (lv' := [(1, .int r5), (0, .ref (q 43))]) hx hb (dk DX3_parseChoice 11 rfl) rfl hl (by decide) rfl (fun ls hl => ?_)
  refine lv_aload_n hx hb (dk DX3_parseChoice 12 rfl) rfl (lv_at hl 1 rfl) ?_
  refine cXv (As := []) (rest := []) X (hR0 _ _ _ h) (cwV 0 X.2.2.2.2.1 (gxV 340 341 342 231 372 rfl rfl rfl rfl rfl) rfl rfl rfl qG_0 ⟨rmG_f d, rmG_l d⟩) (rX_43 X hP) hP hD hS rfl hl.1 rfl (Nat.le_of_ble_eq_true rfl) (dk DX3_parseChoice 13 rfl) (fun S6 H locs h hP hD hS => ?_)
  refine lv_aload_n hx hb (dk DX3_parseChoice 14 rfl) rfl (lv_at hl 1 rfl) ?_
  refine lv_bipush (v := 12) hx hb (dk DX3_parseChoice 15 rfl) (by decide) ?_
  refine cXv (As := [.int 12]) (rest := []) X (m_X3_expect_43 (l := l) (dC := dC) (dI := dI) (q := q) (cI := cI) (cT := cT) (en := en) (sz := _) 12 S6 h) (cwV 1 X.2.2.2.2.1 (gxV 348 349 350 231 325 rfl rfl rfl rfl rfl) rfl rfl rfl q_X3_expect_43 (rmG_c d (Nat.le_of_ble_eq_true rfl) (Nat.le_of_ble_eq_true rfl))) (rX_43 X hP) hP hD hS rfl hl.1 rfl (Nat.le_of_ble_eq_true rfl) (dk DX3_parseChoice 16 rfl) (fun S7 H locs h hP hD hS => ?_)
  refine lv_aload_n hx hb (dk DX3_parseChoice 17 rfl) rfl (lv_at hl 1 rfl) ?_
  refine lv_bipush (v := 62) hx hb (dk DX3_parseChoice 18 rfl) (by decide) ?_
  refine lv_iconst (v := 0) hx hb (dk DX3_parseChoice 19 rfl) (by decide) ?_
  refine cXi (As := [.int 62, .int 0]) (rest := []) X (m_X3_emit_43 (l := l) (dC := dC) (dI := dI) (q := q) (cI := cI) (cT := cT) (en := en) (sz := _) 62 0 S7 h) (cwV 2 X.2.2.2.2.1 (gxV 330 331 332 231 322 rfl rfl rfl rfl rfl) rfl rfl rfl q_X3_emit_43 (rmG_c d (Nat.le_of_ble_eq_true rfl) (Nat.le_of_ble_eq_true rfl))) (rX_43 X hP) hP hD hS rfl hl.1 rfl (Nat.le_of_ble_eq_true rfl) (dk DX3_parseChoice 20 rfl) (fun r9 S8 H locs h hP hD hS => ?_)
  refine lv_istore_n (lv' := [(2, .int r9), (1, .int r5), (0, .ref (q 43))]) hx hb (dk DX3_parseChoice 21 rfl) rfl hl (by decide) rfl (fun ls hl => ?_)
  refine lv_aload_n hx hb (dk DX3_parseChoice 22 rfl) rfl (lv_at hl 2 rfl) ?_
  refine lv_iload_n hx hb (dk DX3_parseChoice 23 rfl) rfl (lv_at hl 1 rfl) ?_
  refine cXv (As := [.int r5]) (rest := []) X (m_X3_aim_43 (l := l) (dC := dC) (dI := dI) (q := q) (cI := cI) (cT := cT) (en := en) (sz := _) r5 S8 h) (cwV 1 X.2.2.2.2.1 (gxV 351 352 353 231 326 rfl rfl rfl rfl rfl) rfl rfl rfl q_X3_aim_43 (rmG_c d (Nat.le_of_ble_eq_true rfl) (Nat.le_of_ble_eq_true rfl))) (rX_43 X hP) hP hD hS rfl hl.1 rfl (Nat.le_of_ble_eq_true rfl) (dk DX3_parseChoice 24 rfl) (fun S10 H locs h hP hD hS => ?_)
  refine lv_aload_n hx hb (dk DX3_parseChoice 25 rfl) rfl (lv_at hl 2 rfl) ?_
  refine cXv (As := []) (rest := []) X (hR0 _ _ _ h) (cwV 0 X.2.2.2.2.1 (gxV 340 341 342 231 372 rfl rfl rfl rfl rfl) rfl rfl rfl qG_0 ⟨rmG_f d, rmG_l d⟩) (rX_43 X hP) hP hD hS rfl hl.1 rfl (Nat.le_of_ble_eq_true rfl) (dk DX3_parseChoice 26 rfl) (fun S11 H locs h hP hD hS => ?_)
  refine lv_aload_n hx hb (dk DX3_parseChoice 27 rfl) rfl (lv_at hl 2 rfl) ?_
  refine lv_iload_n hx hb (dk DX3_parseChoice 28 rfl) rfl (lv_at hl 0 rfl) ?_
  refine cXv (As := [.int r9]) (rest := []) X (m_X3_aim_43 (l := l) (dC := dC) (dI := dI) (q := q) (cI := cI) (cT := cT) (en := en) (sz := _) r9 S11 h) (cwV 1 X.2.2.2.2.1 (gxV 351 352 353 231 326 rfl rfl rfl rfl rfl) rfl rfl rfl q_X3_aim_43 (rmG_c d (Nat.le_of_ble_eq_true rfl) (Nat.le_of_ble_eq_true rfl))) (rX_43 X hP) hP hD hS rfl hl.1 rfl (Nat.le_of_ble_eq_true rfl) (dk DX3_parseChoice 29 rfl) (fun S12 H locs h hP hD hS => ?_)
  refine lv_aload_n hx hb (dk DX3_parseChoice 30 rfl) rfl (lv_at hl 2 rfl) ?_
  refine lv_bipush (v := 42) hx hb (dk DX3_parseChoice 31 rfl) (by decide) ?_
  refine cXv (As := [.int 42]) (rest := []) X (m_X3_expect_43 (l := l) (dC := dC) (dI := dI) (q := q) (cI := cI) (cT := cT) (en := en) (sz := _) 42 S12 h) (cwV 1 X.2.2.2.2.1 (gxV 348 349 350 231 325 rfl rfl rfl rfl rfl) rfl rfl rfl q_X3_expect_43 (rmG_c d (Nat.le_of_ble_eq_true rfl) (Nat.le_of_ble_eq_true rfl))) (rX_43 X hP) hP hD hS rfl hl.1 rfl (Nat.le_of_ble_eq_true rfl) (dk DX3_parseChoice 32 rfl) (fun S13 H locs h hP hD hS => ?_)
  refine lv_aload_n hx hb (dk DX3_parseChoice 33 rfl) rfl (lv_at hl 2 rfl) ?_
  refine lv_dup hx hb (dk DX3_parseChoice 34 rfl) rfl ?_
  refine gX_43 X hP 8 (by decide) rfl lk42 (dk DX3_parseChoice 35 rfl) ?_
  refine lv_iconst (v := 1) hx hb (dk DX3_parseChoice 36 rfl) (by decide) ?_
  refine lv_isub hx hb (dk DX3_parseChoice 37 rfl) ?_
  refine lv_topi (fun v14 ev14 => ?_)
  have h := h v14 ev14
  refine pX_43_8 X hP hD hS lk42 (dk DX3_parseChoice 38 rfl) (fun S15 eS15 H locs hP hD hS => ?_)
  have h := h S15 eS15
  exact W.vret hx hb hr (fun t ht hW => ⟨⟨_, rfl, h, by rw [ht]; exact hP, va_K.moved hW.alike X.2.2.2.2.2.2.1, hD⟩, hS.F ht⟩) hS.2.2 (dk DX3_parseChoice 39 rfl)

abbrev Hd_X3_parseEither_43 : Type := (Int32)
def B_X3_parseEither_43 (R : Nat → (XS → Prop) → XS → Prop) (Post : XS → Prop) (K : Hd_X3_parseEither_43 → XS → Prop) : Hd_X3_parseEither_43 → XS → Prop
  | x1, S => ((300 ≤ x1 → Post S) ∧ (¬ 300 ≤ x1 → ((¬ (S.1 1381) = 43 → Post S) ∧ ((S.1 1381) = 43 → VC_X3_advance_43 (fun S2 => R 5 (fun S3 => VC_X3_emit_43 (fun r5 S4 => ∀ v6 : Int32, v6 = x1 + 1 → K v6 S4) 43 0 S3) S2) S))))
def VC_X3_parseEither_43 (R : Nat → (XS → Prop) → XS → Prop) (Post : XS → Prop) (S : XS) : Prop := ∀ K : Hd_X3_parseEither_43 → XS → Prop, (∀ h S, B_X3_parseEither_43 R Post K h S → K h S) → R 5 (fun S1 => K 0 S1) S
set_option maxHeartbeats 4000000 in
set_option maxRecDepth 100000 in
theorem h_X3_parseEither_43_0 {p : Program} {l : Launch} {e : Env} {s : State} {m : MethodId} {below : List Frame} {meth : Method} {c : Code} {dC : Nat → ClassId} {dI : Nat → Nat → Nat} {q : Nat → Nat} {cI cT : ClassId} {en : Nat → Nat} {A : Nat → Prop} {R : Nat → (XS → Prop) → XS → Prop} {d : Nat} (hR0 : ∀ (Post : XS → Prop) (S : XS) (sz : Nat), R 0 Post S → Met l yX3_parseSum ww_X3_parseSum_43 (rmG d) (va_Pc [.ref (q 43)] (preX dC dI q cI cT en S sz)) (va_Qv Post (atX dC dI q cI cT (va_A (wX q cI cT S) sz)) (va_A (wX q cI cT S) sz)) 0 0 (va_A (wX q cI cT S) sz)) (hR1 : ∀ (Post : XS → Prop) (S : XS) (sz : Nat), R 1 Post S → Met l yX3_parseProduct ww_X3_parseProduct_43 (rmG d) (va_Pc [.ref (q 43)] (preX dC dI q cI cT en S sz)) (va_Qv Post (atX dC dI q cI cT (va_A (wX q cI cT S) sz)) (va_A (wX q cI cT S) sz)) 0 0 (va_A (wX q cI cT S) sz)) (hR2 : ∀ (Post : XS → Prop) (S : XS) (sz : Nat), R 2 Post S → Met l yX3_parseOne ww_X3_parseOne_43 (rmG d) (va_Pc [.ref (q 43)] (preX dC dI q cI cT en S sz)) (va_Qv Post (atX dC dI q cI cT (va_A (wX q cI cT S) sz)) (va_A (wX q cI cT S) sz)) 0 0 (va_A (wX q cI cT S) sz)) (hR3 : ∀ (Post : XS → Prop) (S : XS) (sz : Nat), R 3 Post S → Met l yX3_parseChoice ww_X3_parseChoice_43 (rmG d) (va_Pc [.ref (q 43)] (preX dC dI q cI cT en S sz)) (va_Qv Post (atX dC dI q cI cT (va_A (wX q cI cT S) sz)) (va_A (wX q cI cT S) sz)) 0 0 (va_A (wX q cI cT S) sz)) (hR4 : ∀ (Post : XS → Prop) (S : XS) (sz : Nat), R 4 Post S → Met l yX3_parseEither ww_X3_parseEither_43 (rmG d) (va_Pc [.ref (q 43)] (preX dC dI q cI cT en S sz)) (va_Qv Post (atX dC dI q cI cT (va_A (wX q cI cT S) sz)) (va_A (wX q cI cT S) sz)) 0 0 (va_A (wX q cI cT S) sz)) (hR5 : ∀ (Post : XS → Prop) (S : XS) (sz : Nat), R 5 Post S → Met l yX3_parseBoth ww_X3_parseBoth_43 (rmG d) (va_Pc [.ref (q 43)] (preX dC dI q cI cT en S sz)) (va_Qv Post (atX dC dI q cI cT (va_A (wX q cI cT S) sz)) (va_A (wX q cI cT S) sz)) 0 0 (va_A (wX q cI cT S) sz)) (hR6 : ∀ (Post : XS → Prop) (S : XS) (sz : Nat), R 6 Post S → Met l yX3_parseAsk ww_X3_parseAsk_43 (rmG d) (va_Pc [.ref (q 43)] (preX dC dI q cI cT en S sz)) (va_Qv Post (atX dC dI q cI cT (va_A (wX q cI cT S) sz)) (va_A (wX q cI cT S) sz)) 0 0 (va_A (wX q cI cT S) sz)) {args : Array Value} {Post : XS → Prop} {K : Hd_X3_parseEither_43 → XS → Prop} (X : XX p s m args c cX3_parseEither 2 ww_X3_parseEither_43 RX3 dC dI cI cT en A) (hr : meth.sig.returnType = none) (hlocks : meth.locks = false) (hK0 : ∀ (x1 : Int32) (S : XS), K x1 S → ∀ (H : Heap) (locs : List Loc), va_P (dC, dI) vwCl (wX q cI cT S) H → va_D A (wX q cI cT S) → va_S A s.heap H locs → ∀ ls : Array Slot, lv_has ls 2 [(0, .ref (q 43)), (1, .int x1)] → W p l e (headSpec ww_X3_parseEither_43 (rmG (d + 1))).room s m args below meth c H locs 0 0 (MQ below (va_Qv Post (atX dC dI q cI cT A) A) args s 0 0 A) (F0 m 6 ls [])) (x1 : Int32) (S : XS) (h : B_X3_parseEither_43 R Post K x1 S) : ∀ (H : Heap) (locs : List Loc), va_P (dC, dI) vwCl (wX q cI cT S) H → va_D A (wX q cI cT S) → va_S A s.heap H locs → ∀ ls : Array Slot, lv_has ls 2 [(0, .ref (q 43)), (1, .int x1)] → W p l e (headSpec ww_X3_parseEither_43 (rmG (d + 1))).room s m args below meth c H locs 0 0 (MQ below (va_Qv Post (atX dC dI q cI cT A) A) args s 0 0 A) (F0 m 6 ls []) := by
  have hx := X.1
  have hb := X.2.1
  intro H locs hP hD hS ls hl
  have lk60 := X.2.2.2.2.1 (.fieldLink RX3 60 "BreathOnLoan$Parser" "token" "I") (inX 228 rfl)
  dsimp only [B_X3_parseEither_43] at h
  refine lv_iload_n hx hb (dk DX3_parseEither 4 rfl) rfl (lv_at hl 1 rfl) ?_
  refine lv_sipush (v := 300) hx hb (dk DX3_parseEither 5 rfl) (by decide) ?_
  refine lv_icmp_ge (tgt := 44) hx hb (dk DX3_parseEither 6 rfl) (by decide) (fun hc => ?_) (fun hc => ?_)
  · have h := h.1 hc
    exact W.vret hx hb hr (fun t ht hW => ⟨⟨_, rfl, h, by rw [ht]; exact hP, va_K.moved hW.alike X.2.2.2.2.2.2.1, hD⟩, hS.F ht⟩) hS.2.2 (dk DX3_parseEither 22 rfl)
  · have h := h.2 hc
    refine lv_aload_n hx hb (dk DX3_parseEither 7 rfl) rfl (lv_at hl 0 rfl) ?_
    refine gX_43 X hP 5 (by decide) rfl lk60 (dk DX3_parseEither 8 rfl) ?_
    refine lv_bipush (v := 43) hx hb (dk DX3_parseEither 9 rfl) (by decide) ?_
    refine lv_icmp_ne (tgt := 44) hx hb (dk DX3_parseEither 10 rfl) (by decide) (fun hc => ?_) (fun hc => ?_)
    · have h := h.1 hc
      exact W.vret hx hb hr (fun t ht hW => ⟨⟨_, rfl, h, by rw [ht]; exact hP, va_K.moved hW.alike X.2.2.2.2.2.2.1, hD⟩, hS.F ht⟩) hS.2.2 (dk DX3_parseEither 22 rfl)
    · have h := h.2 hc
      refine lv_aload_n hx hb (dk DX3_parseEither 11 rfl) rfl (lv_at hl 0 rfl) ?_
      refine cXv (As := []) (rest := []) X (m_X3_advance_43 (l := l) (dC := dC) (dI := dI) (q := q) (cI := cI) (cT := cT) (en := en) (sz := _) S h) (cwV 0 X.2.2.2.2.1 (gxV 318 319 320 231 312 rfl rfl rfl rfl rfl) rfl rfl rfl q_X3_advance_43 (rmG_c d (Nat.le_of_ble_eq_true rfl) (Nat.le_of_ble_eq_true rfl))) (rX_43 X hP) hP hD hS rfl hl.1 rfl (Nat.le_of_ble_eq_true rfl) (dk DX3_parseEither 12 rfl) (fun S2 H locs h hP hD hS => ?_)
      refine lv_aload_n hx hb (dk DX3_parseEither 13 rfl) rfl (lv_at hl 0 rfl) ?_
      refine cXv (As := []) (rest := []) X (hR5 _ _ _ h) (cwV 0 X.2.2.2.2.1 (gxV 355 356 357 231 343 rfl rfl rfl rfl rfl) rfl rfl rfl qG_5 ⟨rmG_f d, rmG_l d⟩) (rX_43 X hP) hP hD hS rfl hl.1 rfl (Nat.le_of_ble_eq_true rfl) (dk DX3_parseEither 14 rfl) (fun S3 H locs h hP hD hS => ?_)
      refine lv_aload_n hx hb (dk DX3_parseEither 15 rfl) rfl (lv_at hl 0 rfl) ?_
      refine lv_bipush (v := 43) hx hb (dk DX3_parseEither 16 rfl) (by decide) ?_
      refine lv_iconst (v := 0) hx hb (dk DX3_parseEither 17 rfl) (by decide) ?_
      refine cXi (As := [.int 43, .int 0]) (rest := []) X (m_X3_emit_43 (l := l) (dC := dC) (dI := dI) (q := q) (cI := cI) (cT := cT) (en := en) (sz := _) 43 0 S3 h) (cwV 2 X.2.2.2.2.1 (gxV 330 331 332 231 322 rfl rfl rfl rfl rfl) rfl rfl rfl q_X3_emit_43 (rmG_c d (Nat.le_of_ble_eq_true rfl) (Nat.le_of_ble_eq_true rfl))) (rX_43 X hP) hP hD hS rfl hl.1 rfl (Nat.le_of_ble_eq_true rfl) (dk DX3_parseEither 18 rfl) (fun r5 S4 H locs h hP hD hS => ?_)
      refine lv_pop hx hb (dk DX3_parseEither 19 rfl) rfl ?_
      obtain ⟨v6, ev6⟩ : ∃ y : Int32, y = x1 + 1 := ⟨_, rfl⟩
      have h := h v6 ev6
      refine lv_iinc (v := v6) (lv' := [(1, .int v6), (0, .ref (q 43))]) hx hb (dk DX3_parseEither 20 rfl) hl (k := 1) rfl (by rw [ev6]; rfl) (by decide) rfl (fun ls hl => ?_)
      refine lv_goto (tgt := 6) hx hb (dk DX3_parseEither 21 rfl) (by decide) ?_
      exact hK0 v6 S4 h _ _ hP hD hS ls (lv_sub hl [1, 0] rfl)
set_option maxHeartbeats 4000000 in
set_option maxRecDepth 100000 in
theorem m_X3_parseEither_43 {l : Launch} {dC : Nat → ClassId} {dI : Nat → Nat → Nat} {q : Nat → Nat} {cI cT : ClassId} {en : Nat → Nat} {sz : Nat} {Post : XS → Prop} {R : Nat → (XS → Prop) → XS → Prop} {d : Nat} (hR0 : ∀ (Post : XS → Prop) (S : XS) (sz : Nat), R 0 Post S → Met l yX3_parseSum ww_X3_parseSum_43 (rmG d) (va_Pc [.ref (q 43)] (preX dC dI q cI cT en S sz)) (va_Qv Post (atX dC dI q cI cT (va_A (wX q cI cT S) sz)) (va_A (wX q cI cT S) sz)) 0 0 (va_A (wX q cI cT S) sz)) (hR1 : ∀ (Post : XS → Prop) (S : XS) (sz : Nat), R 1 Post S → Met l yX3_parseProduct ww_X3_parseProduct_43 (rmG d) (va_Pc [.ref (q 43)] (preX dC dI q cI cT en S sz)) (va_Qv Post (atX dC dI q cI cT (va_A (wX q cI cT S) sz)) (va_A (wX q cI cT S) sz)) 0 0 (va_A (wX q cI cT S) sz)) (hR2 : ∀ (Post : XS → Prop) (S : XS) (sz : Nat), R 2 Post S → Met l yX3_parseOne ww_X3_parseOne_43 (rmG d) (va_Pc [.ref (q 43)] (preX dC dI q cI cT en S sz)) (va_Qv Post (atX dC dI q cI cT (va_A (wX q cI cT S) sz)) (va_A (wX q cI cT S) sz)) 0 0 (va_A (wX q cI cT S) sz)) (hR3 : ∀ (Post : XS → Prop) (S : XS) (sz : Nat), R 3 Post S → Met l yX3_parseChoice ww_X3_parseChoice_43 (rmG d) (va_Pc [.ref (q 43)] (preX dC dI q cI cT en S sz)) (va_Qv Post (atX dC dI q cI cT (va_A (wX q cI cT S) sz)) (va_A (wX q cI cT S) sz)) 0 0 (va_A (wX q cI cT S) sz)) (hR4 : ∀ (Post : XS → Prop) (S : XS) (sz : Nat), R 4 Post S → Met l yX3_parseEither ww_X3_parseEither_43 (rmG d) (va_Pc [.ref (q 43)] (preX dC dI q cI cT en S sz)) (va_Qv Post (atX dC dI q cI cT (va_A (wX q cI cT S) sz)) (va_A (wX q cI cT S) sz)) 0 0 (va_A (wX q cI cT S) sz)) (hR5 : ∀ (Post : XS → Prop) (S : XS) (sz : Nat), R 5 Post S → Met l yX3_parseBoth ww_X3_parseBoth_43 (rmG d) (va_Pc [.ref (q 43)] (preX dC dI q cI cT en S sz)) (va_Qv Post (atX dC dI q cI cT (va_A (wX q cI cT S) sz)) (va_A (wX q cI cT S) sz)) 0 0 (va_A (wX q cI cT S) sz)) (hR6 : ∀ (Post : XS → Prop) (S : XS) (sz : Nat), R 6 Post S → Met l yX3_parseAsk ww_X3_parseAsk_43 (rmG d) (va_Pc [.ref (q 43)] (preX dC dI q cI cT en S sz)) (va_Qv Post (atX dC dI q cI cT (va_A (wX q cI cT S) sz)) (va_A (wX q cI cT S) sz)) 0 0 (va_A (wX q cI cT S) sz)) (S : XS) (h : VC_X3_parseEither_43 R Post S) : Met l yX3_parseEither ww_X3_parseEither_43 (rmG (d + 1)) (va_Pc [.ref (q 43)] (preX dC dI q cI cT en S sz)) (va_Qv Post (atX dC dI q cI cT (va_A (wX q cI cT S) sz)) (va_A (wX q cI cT S) sz)) 0 0 (va_A (wX q cI cT S) sz) := by
  refine oX (cc := cX3_parseEither) (maxL := 2) (ret := none) (Qc := fun A => va_Qv Post (atX dC dI q cI cT A) A) (own := RX3) (by decide) rfl (fun w h => List.mem_cons_of_mem _ (List.mem_append_right _ h)) rfl (Nat.le_of_ble_eq_true rfl) (fun p e s m below meth c A ls X hr hlocks hP hD hS hl => ?_)
  have hx := X.1
  have hb := X.2.1
  have hl : lv_has ls 2 [(0, .ref (q 43))] := hl
  have lk60 := X.2.2.2.2.1 (.fieldLink RX3 60 "BreathOnLoan$Parser" "token" "I") (inX 228 rfl)
  generalize hargs : ([.ref (q 43)] : List Value).toArray = args at X ⊢
  have h := h (fun hd S => match hd with | x1 => ∀ (H : Heap) (locs : List Loc), va_P (dC, dI) vwCl (wX q cI cT S) H → va_D A (wX q cI cT S) → va_S A s.heap H locs → ∀ ls : Array Slot, lv_has ls 2 [(0, .ref (q 43)), (1, .int x1)] → W p l e (headSpec ww_X3_parseEither_43 (rmG (d + 1))).room s m args below meth c H locs 0 0 (MQ below (va_Qv Post (atX dC dI q cI cT A) A) args s 0 0 A) (F0 m 6 ls [])) ?_
  · skip
    refine lv_aload_n hx hb (dk DX3_parseEither 0 rfl) rfl (lv_at hl 0 rfl) ?_
    refine cXv (As := []) (rest := []) X (hR5 _ _ _ h) (cwV 0 X.2.2.2.2.1 (gxV 355 356 357 231 343 rfl rfl rfl rfl rfl) rfl rfl rfl qG_5 ⟨rmG_f d, rmG_l d⟩) (rX_43 X hP) hP hD hS rfl hl.1 rfl (Nat.le_of_ble_eq_true rfl) (dk DX3_parseEither 1 rfl) (fun S1 H locs h hP hD hS => ?_)
    refine lv_iconst (v := 0) hx hb (dk DX3_parseEither 2 rfl) (by decide) ?_
    refine lv_istore_n (lv' := [(1, .int 0), (0, .ref (q 43))]) hx hb (dk DX3_parseEither 3 rfl) rfl hl (by decide) rfl (fun ls hl => ?_)
    exact h _ _ hP hD hS ls (lv_sub hl [1, 0] rfl)
  · rintro x1 S hB
    exact h_X3_parseEither_43_0 hR0 hR1 hR2 hR3 hR4 hR5 hR6 X hr hlocks (hK0 := fun _ _ h => h) x1 S hB

abbrev Hd_X3_parseBoth_43 : Type := (Int32)
def B_X3_parseBoth_43 (R : Nat → (XS → Prop) → XS → Prop) (Post : XS → Prop) (K : Hd_X3_parseBoth_43 → XS → Prop) : Hd_X3_parseBoth_43 → XS → Prop
  | x1, S => ((300 ≤ x1 → Post S) ∧ (¬ 300 ≤ x1 → ((¬ (S.1 1381) = 44 → Post S) ∧ ((S.1 1381) = 44 → VC_X3_advance_43 (fun S2 => R 6 (fun S3 => VC_X3_emit_43 (fun r5 S4 => ∀ v6 : Int32, v6 = x1 + 1 → K v6 S4) 44 0 S3) S2) S))))
def VC_X3_parseBoth_43 (R : Nat → (XS → Prop) → XS → Prop) (Post : XS → Prop) (S : XS) : Prop := ∀ K : Hd_X3_parseBoth_43 → XS → Prop, (∀ h S, B_X3_parseBoth_43 R Post K h S → K h S) → R 6 (fun S1 => K 0 S1) S
set_option maxHeartbeats 4000000 in
set_option maxRecDepth 100000 in
theorem h_X3_parseBoth_43_0 {p : Program} {l : Launch} {e : Env} {s : State} {m : MethodId} {below : List Frame} {meth : Method} {c : Code} {dC : Nat → ClassId} {dI : Nat → Nat → Nat} {q : Nat → Nat} {cI cT : ClassId} {en : Nat → Nat} {A : Nat → Prop} {R : Nat → (XS → Prop) → XS → Prop} {d : Nat} (hR0 : ∀ (Post : XS → Prop) (S : XS) (sz : Nat), R 0 Post S → Met l yX3_parseSum ww_X3_parseSum_43 (rmG d) (va_Pc [.ref (q 43)] (preX dC dI q cI cT en S sz)) (va_Qv Post (atX dC dI q cI cT (va_A (wX q cI cT S) sz)) (va_A (wX q cI cT S) sz)) 0 0 (va_A (wX q cI cT S) sz)) (hR1 : ∀ (Post : XS → Prop) (S : XS) (sz : Nat), R 1 Post S → Met l yX3_parseProduct ww_X3_parseProduct_43 (rmG d) (va_Pc [.ref (q 43)] (preX dC dI q cI cT en S sz)) (va_Qv Post (atX dC dI q cI cT (va_A (wX q cI cT S) sz)) (va_A (wX q cI cT S) sz)) 0 0 (va_A (wX q cI cT S) sz)) (hR2 : ∀ (Post : XS → Prop) (S : XS) (sz : Nat), R 2 Post S → Met l yX3_parseOne ww_X3_parseOne_43 (rmG d) (va_Pc [.ref (q 43)] (preX dC dI q cI cT en S sz)) (va_Qv Post (atX dC dI q cI cT (va_A (wX q cI cT S) sz)) (va_A (wX q cI cT S) sz)) 0 0 (va_A (wX q cI cT S) sz)) (hR3 : ∀ (Post : XS → Prop) (S : XS) (sz : Nat), R 3 Post S → Met l yX3_parseChoice ww_X3_parseChoice_43 (rmG d) (va_Pc [.ref (q 43)] (preX dC dI q cI cT en S sz)) (va_Qv Post (atX dC dI q cI cT (va_A (wX q cI cT S) sz)) (va_A (wX q cI cT S) sz)) 0 0 (va_A (wX q cI cT S) sz)) (hR4 : ∀ (Post : XS → Prop) (S : XS) (sz : Nat), R 4 Post S → Met l yX3_parseEither ww_X3_parseEither_43 (rmG d) (va_Pc [.ref (q 43)] (preX dC dI q cI cT en S sz)) (va_Qv Post (atX dC dI q cI cT (va_A (wX q cI cT S) sz)) (va_A (wX q cI cT S) sz)) 0 0 (va_A (wX q cI cT S) sz)) (hR5 : ∀ (Post : XS → Prop) (S : XS) (sz : Nat), R 5 Post S → Met l yX3_parseBoth ww_X3_parseBoth_43 (rmG d) (va_Pc [.ref (q 43)] (preX dC dI q cI cT en S sz)) (va_Qv Post (atX dC dI q cI cT (va_A (wX q cI cT S) sz)) (va_A (wX q cI cT S) sz)) 0 0 (va_A (wX q cI cT S) sz)) (hR6 : ∀ (Post : XS → Prop) (S : XS) (sz : Nat), R 6 Post S → Met l yX3_parseAsk ww_X3_parseAsk_43 (rmG d) (va_Pc [.ref (q 43)] (preX dC dI q cI cT en S sz)) (va_Qv Post (atX dC dI q cI cT (va_A (wX q cI cT S) sz)) (va_A (wX q cI cT S) sz)) 0 0 (va_A (wX q cI cT S) sz)) {args : Array Value} {Post : XS → Prop} {K : Hd_X3_parseBoth_43 → XS → Prop} (X : XX p s m args c cX3_parseBoth 2 ww_X3_parseBoth_43 RX3 dC dI cI cT en A) (hr : meth.sig.returnType = none) (hlocks : meth.locks = false) (hK0 : ∀ (x1 : Int32) (S : XS), K x1 S → ∀ (H : Heap) (locs : List Loc), va_P (dC, dI) vwCl (wX q cI cT S) H → va_D A (wX q cI cT S) → va_S A s.heap H locs → ∀ ls : Array Slot, lv_has ls 2 [(0, .ref (q 43)), (1, .int x1)] → W p l e (headSpec ww_X3_parseBoth_43 (rmG (d + 1))).room s m args below meth c H locs 0 0 (MQ below (va_Qv Post (atX dC dI q cI cT A) A) args s 0 0 A) (F0 m 6 ls [])) (x1 : Int32) (S : XS) (h : B_X3_parseBoth_43 R Post K x1 S) : ∀ (H : Heap) (locs : List Loc), va_P (dC, dI) vwCl (wX q cI cT S) H → va_D A (wX q cI cT S) → va_S A s.heap H locs → ∀ ls : Array Slot, lv_has ls 2 [(0, .ref (q 43)), (1, .int x1)] → W p l e (headSpec ww_X3_parseBoth_43 (rmG (d + 1))).room s m args below meth c H locs 0 0 (MQ below (va_Qv Post (atX dC dI q cI cT A) A) args s 0 0 A) (F0 m 6 ls []) := by
  have hx := X.1
  have hb := X.2.1
  intro H locs hP hD hS ls hl
  have lk60 := X.2.2.2.2.1 (.fieldLink RX3 60 "BreathOnLoan$Parser" "token" "I") (inX 228 rfl)
  dsimp only [B_X3_parseBoth_43] at h
  refine lv_iload_n hx hb (dk DX3_parseBoth 4 rfl) rfl (lv_at hl 1 rfl) ?_
  refine lv_sipush (v := 300) hx hb (dk DX3_parseBoth 5 rfl) (by decide) ?_
  refine lv_icmp_ge (tgt := 44) hx hb (dk DX3_parseBoth 6 rfl) (by decide) (fun hc => ?_) (fun hc => ?_)
  · have h := h.1 hc
    exact W.vret hx hb hr (fun t ht hW => ⟨⟨_, rfl, h, by rw [ht]; exact hP, va_K.moved hW.alike X.2.2.2.2.2.2.1, hD⟩, hS.F ht⟩) hS.2.2 (dk DX3_parseBoth 22 rfl)
  · have h := h.2 hc
    refine lv_aload_n hx hb (dk DX3_parseBoth 7 rfl) rfl (lv_at hl 0 rfl) ?_
    refine gX_43 X hP 5 (by decide) rfl lk60 (dk DX3_parseBoth 8 rfl) ?_
    refine lv_bipush (v := 44) hx hb (dk DX3_parseBoth 9 rfl) (by decide) ?_
    refine lv_icmp_ne (tgt := 44) hx hb (dk DX3_parseBoth 10 rfl) (by decide) (fun hc => ?_) (fun hc => ?_)
    · have h := h.1 hc
      exact W.vret hx hb hr (fun t ht hW => ⟨⟨_, rfl, h, by rw [ht]; exact hP, va_K.moved hW.alike X.2.2.2.2.2.2.1, hD⟩, hS.F ht⟩) hS.2.2 (dk DX3_parseBoth 22 rfl)
    · have h := h.2 hc
      refine lv_aload_n hx hb (dk DX3_parseBoth 11 rfl) rfl (lv_at hl 0 rfl) ?_
      refine cXv (As := []) (rest := []) X (m_X3_advance_43 (l := l) (dC := dC) (dI := dI) (q := q) (cI := cI) (cT := cT) (en := en) (sz := _) S h) (cwV 0 X.2.2.2.2.1 (gxV 318 319 320 231 312 rfl rfl rfl rfl rfl) rfl rfl rfl q_X3_advance_43 (rmG_c d (Nat.le_of_ble_eq_true rfl) (Nat.le_of_ble_eq_true rfl))) (rX_43 X hP) hP hD hS rfl hl.1 rfl (Nat.le_of_ble_eq_true rfl) (dk DX3_parseBoth 12 rfl) (fun S2 H locs h hP hD hS => ?_)
      refine lv_aload_n hx hb (dk DX3_parseBoth 13 rfl) rfl (lv_at hl 0 rfl) ?_
      refine cXv (As := []) (rest := []) X (hR6 _ _ _ h) (cwV 0 X.2.2.2.2.1 (gxV 337 338 339 231 376 rfl rfl rfl rfl rfl) rfl rfl rfl qG_6 ⟨rmG_f d, rmG_l d⟩) (rX_43 X hP) hP hD hS rfl hl.1 rfl (Nat.le_of_ble_eq_true rfl) (dk DX3_parseBoth 14 rfl) (fun S3 H locs h hP hD hS => ?_)
      refine lv_aload_n hx hb (dk DX3_parseBoth 15 rfl) rfl (lv_at hl 0 rfl) ?_
      refine lv_bipush (v := 44) hx hb (dk DX3_parseBoth 16 rfl) (by decide) ?_
      refine lv_iconst (v := 0) hx hb (dk DX3_parseBoth 17 rfl) (by decide) ?_
      refine cXi (As := [.int 44, .int 0]) (rest := []) X (m_X3_emit_43 (l := l) (dC := dC) (dI := dI) (q := q) (cI := cI) (cT := cT) (en := en) (sz := _) 44 0 S3 h) (cwV 2 X.2.2.2.2.1 (gxV 330 331 332 231 322 rfl rfl rfl rfl rfl) rfl rfl rfl q_X3_emit_43 (rmG_c d (Nat.le_of_ble_eq_true rfl) (Nat.le_of_ble_eq_true rfl))) (rX_43 X hP) hP hD hS rfl hl.1 rfl (Nat.le_of_ble_eq_true rfl) (dk DX3_parseBoth 18 rfl) (fun r5 S4 H locs h hP hD hS => ?_)
      refine lv_pop hx hb (dk DX3_parseBoth 19 rfl) rfl ?_
      obtain ⟨v6, ev6⟩ : ∃ y : Int32, y = x1 + 1 := ⟨_, rfl⟩
      have h := h v6 ev6
      refine lv_iinc (v := v6) (lv' := [(1, .int v6), (0, .ref (q 43))]) hx hb (dk DX3_parseBoth 20 rfl) hl (k := 1) rfl (by rw [ev6]; rfl) (by decide) rfl (fun ls hl => ?_)
      refine lv_goto (tgt := 6) hx hb (dk DX3_parseBoth 21 rfl) (by decide) ?_
      exact hK0 v6 S4 h _ _ hP hD hS ls (lv_sub hl [1, 0] rfl)
set_option maxHeartbeats 4000000 in
set_option maxRecDepth 100000 in
theorem m_X3_parseBoth_43 {l : Launch} {dC : Nat → ClassId} {dI : Nat → Nat → Nat} {q : Nat → Nat} {cI cT : ClassId} {en : Nat → Nat} {sz : Nat} {Post : XS → Prop} {R : Nat → (XS → Prop) → XS → Prop} {d : Nat} (hR0 : ∀ (Post : XS → Prop) (S : XS) (sz : Nat), R 0 Post S → Met l yX3_parseSum ww_X3_parseSum_43 (rmG d) (va_Pc [.ref (q 43)] (preX dC dI q cI cT en S sz)) (va_Qv Post (atX dC dI q cI cT (va_A (wX q cI cT S) sz)) (va_A (wX q cI cT S) sz)) 0 0 (va_A (wX q cI cT S) sz)) (hR1 : ∀ (Post : XS → Prop) (S : XS) (sz : Nat), R 1 Post S → Met l yX3_parseProduct ww_X3_parseProduct_43 (rmG d) (va_Pc [.ref (q 43)] (preX dC dI q cI cT en S sz)) (va_Qv Post (atX dC dI q cI cT (va_A (wX q cI cT S) sz)) (va_A (wX q cI cT S) sz)) 0 0 (va_A (wX q cI cT S) sz)) (hR2 : ∀ (Post : XS → Prop) (S : XS) (sz : Nat), R 2 Post S → Met l yX3_parseOne ww_X3_parseOne_43 (rmG d) (va_Pc [.ref (q 43)] (preX dC dI q cI cT en S sz)) (va_Qv Post (atX dC dI q cI cT (va_A (wX q cI cT S) sz)) (va_A (wX q cI cT S) sz)) 0 0 (va_A (wX q cI cT S) sz)) (hR3 : ∀ (Post : XS → Prop) (S : XS) (sz : Nat), R 3 Post S → Met l yX3_parseChoice ww_X3_parseChoice_43 (rmG d) (va_Pc [.ref (q 43)] (preX dC dI q cI cT en S sz)) (va_Qv Post (atX dC dI q cI cT (va_A (wX q cI cT S) sz)) (va_A (wX q cI cT S) sz)) 0 0 (va_A (wX q cI cT S) sz)) (hR4 : ∀ (Post : XS → Prop) (S : XS) (sz : Nat), R 4 Post S → Met l yX3_parseEither ww_X3_parseEither_43 (rmG d) (va_Pc [.ref (q 43)] (preX dC dI q cI cT en S sz)) (va_Qv Post (atX dC dI q cI cT (va_A (wX q cI cT S) sz)) (va_A (wX q cI cT S) sz)) 0 0 (va_A (wX q cI cT S) sz)) (hR5 : ∀ (Post : XS → Prop) (S : XS) (sz : Nat), R 5 Post S → Met l yX3_parseBoth ww_X3_parseBoth_43 (rmG d) (va_Pc [.ref (q 43)] (preX dC dI q cI cT en S sz)) (va_Qv Post (atX dC dI q cI cT (va_A (wX q cI cT S) sz)) (va_A (wX q cI cT S) sz)) 0 0 (va_A (wX q cI cT S) sz)) (hR6 : ∀ (Post : XS → Prop) (S : XS) (sz : Nat), R 6 Post S → Met l yX3_parseAsk ww_X3_parseAsk_43 (rmG d) (va_Pc [.ref (q 43)] (preX dC dI q cI cT en S sz)) (va_Qv Post (atX dC dI q cI cT (va_A (wX q cI cT S) sz)) (va_A (wX q cI cT S) sz)) 0 0 (va_A (wX q cI cT S) sz)) (S : XS) (h : VC_X3_parseBoth_43 R Post S) : Met l yX3_parseBoth ww_X3_parseBoth_43 (rmG (d + 1)) (va_Pc [.ref (q 43)] (preX dC dI q cI cT en S sz)) (va_Qv Post (atX dC dI q cI cT (va_A (wX q cI cT S) sz)) (va_A (wX q cI cT S) sz)) 0 0 (va_A (wX q cI cT S) sz) := by
  refine oX (cc := cX3_parseBoth) (maxL := 2) (ret := none) (Qc := fun A => va_Qv Post (atX dC dI q cI cT A) A) (own := RX3) (by decide) rfl (fun w h => List.mem_cons_of_mem _ (List.mem_append_right _ h)) rfl (Nat.le_of_ble_eq_true rfl) (fun p e s m below meth c A ls X hr hlocks hP hD hS hl => ?_)
  have hx := X.1
  have hb := X.2.1
  have hl : lv_has ls 2 [(0, .ref (q 43))] := hl
  have lk60 := X.2.2.2.2.1 (.fieldLink RX3 60 "BreathOnLoan$Parser" "token" "I") (inX 228 rfl)
  generalize hargs : ([.ref (q 43)] : List Value).toArray = args at X ⊢
  have h := h (fun hd S => match hd with | x1 => ∀ (H : Heap) (locs : List Loc), va_P (dC, dI) vwCl (wX q cI cT S) H → va_D A (wX q cI cT S) → va_S A s.heap H locs → ∀ ls : Array Slot, lv_has ls 2 [(0, .ref (q 43)), (1, .int x1)] → W p l e (headSpec ww_X3_parseBoth_43 (rmG (d + 1))).room s m args below meth c H locs 0 0 (MQ below (va_Qv Post (atX dC dI q cI cT A) A) args s 0 0 A) (F0 m 6 ls [])) ?_
  · skip
    refine lv_aload_n hx hb (dk DX3_parseBoth 0 rfl) rfl (lv_at hl 0 rfl) ?_
    refine cXv (As := []) (rest := []) X (hR6 _ _ _ h) (cwV 0 X.2.2.2.2.1 (gxV 337 338 339 231 376 rfl rfl rfl rfl rfl) rfl rfl rfl qG_6 ⟨rmG_f d, rmG_l d⟩) (rX_43 X hP) hP hD hS rfl hl.1 rfl (Nat.le_of_ble_eq_true rfl) (dk DX3_parseBoth 1 rfl) (fun S1 H locs h hP hD hS => ?_)
    refine lv_iconst (v := 0) hx hb (dk DX3_parseBoth 2 rfl) (by decide) ?_
    refine lv_istore_n (lv' := [(1, .int 0), (0, .ref (q 43))]) hx hb (dk DX3_parseBoth 3 rfl) rfl hl (by decide) rfl (fun ls hl => ?_)
    exact h _ _ hP hD hS ls (lv_sub hl [1, 0] rfl)
  · rintro x1 S hB
    exact h_X3_parseBoth_43_0 hR0 hR1 hR2 hR3 hR4 hR5 hR6 X hr hlocks (hK0 := fun _ _ h => h) x1 S hB

abbrev Hd_X3_parseAsk_43 : Type := (Int32)
def B_X3_parseAsk_43 (R : Nat → (XS → Prop) → XS → Prop) (Post : XS → Prop) (K : Hd_X3_parseAsk_43 → XS → Prop) : Hd_X3_parseAsk_43 → XS → Prop
  | x1, S => VC_X3_advance_43 (fun S11 => R 0 (fun S12 => VC_X3_emit_43 (fun r14 S13 => Post S13) x1 0 S12) S11) S
def VC_X3_parseAsk_43 (R : Nat → (XS → Prop) → XS → Prop) (Post : XS → Prop) (S : XS) : Prop := ∀ K : Hd_X3_parseAsk_43 → XS → Prop, (∀ h S, B_X3_parseAsk_43 R Post K h S → K h S) → ((¬ (S.1 1381) = 45 → R 0 (fun S1 => ∀ v2 : Int32, v2 = (S1.1 1381) → VC_X11_within (fun r3 => ((¬ r3 = 0 → K v2 S1) ∧ (r3 = 0 → ((v2 = 13 → K v2 S1) ∧ (¬ v2 = 13 → ((¬ v2 = 14 → VC_X3_fail_43 (fun S4 => Post S4) 1 S1) ∧ (v2 = 14 → K v2 S1))))))) v2 0 3) S) ∧ ((S.1 1381) = 45 → VC_X3_enter_43 (fun S5 => R 6 (fun S6 => VC_X3_emit_43 (fun r8 S7 => ∀ v9 : Int32, v9 = (S7.1 1384) - 1 → ∀ S10 : XS, S10 = xI S7 1384 v9 → Post S10) 45 0 S6) S5) S))
set_option maxHeartbeats 4000000 in
set_option maxRecDepth 100000 in
theorem h_X3_parseAsk_43_0 {p : Program} {l : Launch} {e : Env} {s : State} {m : MethodId} {below : List Frame} {meth : Method} {c : Code} {dC : Nat → ClassId} {dI : Nat → Nat → Nat} {q : Nat → Nat} {cI cT : ClassId} {en : Nat → Nat} {A : Nat → Prop} {R : Nat → (XS → Prop) → XS → Prop} {d : Nat} (hR0 : ∀ (Post : XS → Prop) (S : XS) (sz : Nat), R 0 Post S → Met l yX3_parseSum ww_X3_parseSum_43 (rmG d) (va_Pc [.ref (q 43)] (preX dC dI q cI cT en S sz)) (va_Qv Post (atX dC dI q cI cT (va_A (wX q cI cT S) sz)) (va_A (wX q cI cT S) sz)) 0 0 (va_A (wX q cI cT S) sz)) (hR1 : ∀ (Post : XS → Prop) (S : XS) (sz : Nat), R 1 Post S → Met l yX3_parseProduct ww_X3_parseProduct_43 (rmG d) (va_Pc [.ref (q 43)] (preX dC dI q cI cT en S sz)) (va_Qv Post (atX dC dI q cI cT (va_A (wX q cI cT S) sz)) (va_A (wX q cI cT S) sz)) 0 0 (va_A (wX q cI cT S) sz)) (hR2 : ∀ (Post : XS → Prop) (S : XS) (sz : Nat), R 2 Post S → Met l yX3_parseOne ww_X3_parseOne_43 (rmG d) (va_Pc [.ref (q 43)] (preX dC dI q cI cT en S sz)) (va_Qv Post (atX dC dI q cI cT (va_A (wX q cI cT S) sz)) (va_A (wX q cI cT S) sz)) 0 0 (va_A (wX q cI cT S) sz)) (hR3 : ∀ (Post : XS → Prop) (S : XS) (sz : Nat), R 3 Post S → Met l yX3_parseChoice ww_X3_parseChoice_43 (rmG d) (va_Pc [.ref (q 43)] (preX dC dI q cI cT en S sz)) (va_Qv Post (atX dC dI q cI cT (va_A (wX q cI cT S) sz)) (va_A (wX q cI cT S) sz)) 0 0 (va_A (wX q cI cT S) sz)) (hR4 : ∀ (Post : XS → Prop) (S : XS) (sz : Nat), R 4 Post S → Met l yX3_parseEither ww_X3_parseEither_43 (rmG d) (va_Pc [.ref (q 43)] (preX dC dI q cI cT en S sz)) (va_Qv Post (atX dC dI q cI cT (va_A (wX q cI cT S) sz)) (va_A (wX q cI cT S) sz)) 0 0 (va_A (wX q cI cT S) sz)) (hR5 : ∀ (Post : XS → Prop) (S : XS) (sz : Nat), R 5 Post S → Met l yX3_parseBoth ww_X3_parseBoth_43 (rmG d) (va_Pc [.ref (q 43)] (preX dC dI q cI cT en S sz)) (va_Qv Post (atX dC dI q cI cT (va_A (wX q cI cT S) sz)) (va_A (wX q cI cT S) sz)) 0 0 (va_A (wX q cI cT S) sz)) (hR6 : ∀ (Post : XS → Prop) (S : XS) (sz : Nat), R 6 Post S → Met l yX3_parseAsk ww_X3_parseAsk_43 (rmG d) (va_Pc [.ref (q 43)] (preX dC dI q cI cT en S sz)) (va_Qv Post (atX dC dI q cI cT (va_A (wX q cI cT S) sz)) (va_A (wX q cI cT S) sz)) 0 0 (va_A (wX q cI cT S) sz)) {args : Array Value} {Post : XS → Prop} {K : Hd_X3_parseAsk_43 → XS → Prop} (X : XX p s m args c cX3_parseAsk 2 ww_X3_parseAsk_43 RX3 dC dI cI cT en A) (hr : meth.sig.returnType = none) (hlocks : meth.locks = false) (hK0 : ∀ (x1 : Int32) (S : XS), K x1 S → ∀ (H : Heap) (locs : List Loc), va_P (dC, dI) vwCl (wX q cI cT S) H → va_D A (wX q cI cT S) → va_S A s.heap H locs → ∀ ls : Array Slot, lv_has ls 2 [(0, .ref (q 43)), (1, .int x1)] → W p l e (headSpec ww_X3_parseAsk_43 (rmG (d + 1))).room s m args below meth c H locs 0 0 (MQ below (va_Qv Post (atX dC dI q cI cT A) A) args s 0 0 A) (F0 m 66 ls [])) (x1 : Int32) (S : XS) (h : B_X3_parseAsk_43 R Post K x1 S) : ∀ (H : Heap) (locs : List Loc), va_P (dC, dI) vwCl (wX q cI cT S) H → va_D A (wX q cI cT S) → va_S A s.heap H locs → ∀ ls : Array Slot, lv_has ls 2 [(0, .ref (q 43)), (1, .int x1)] → W p l e (headSpec ww_X3_parseAsk_43 (rmG (d + 1))).room s m args below meth c H locs 0 0 (MQ below (va_Qv Post (atX dC dI q cI cT A) A) args s 0 0 A) (F0 m 66 ls []) := by
  have hx := X.1
  have hb := X.2.1
  intro H locs hP hD hS ls hl
  have lk60 := X.2.2.2.2.1 (.fieldLink RX3 60 "BreathOnLoan$Parser" "token" "I") (inX 228 rfl)
  have lk42 := X.2.2.2.2.1 (.fieldLink RX3 42 "BreathOnLoan$Parser" "open" "I") (inX 314 rfl)
  dsimp only [B_X3_parseAsk_43] at h
  refine lv_aload_n hx hb (dk DX3_parseAsk 36 rfl) rfl (lv_at hl 0 rfl) ?_
  refine cXv (As := []) (rest := []) X (m_X3_advance_43 (l := l) (dC := dC) (dI := dI) (q := q) (cI := cI) (cT := cT) (en := en) (sz := _) S h) (cwV 0 X.2.2.2.2.1 (gxV 318 319 320 231 312 rfl rfl rfl rfl rfl) rfl rfl rfl q_X3_advance_43 (rmG_c d (Nat.le_of_ble_eq_true rfl) (Nat.le_of_ble_eq_true rfl))) (rX_43 X hP) hP hD hS rfl hl.1 rfl (Nat.le_of_ble_eq_true rfl) (dk DX3_parseAsk 37 rfl) (fun S11 H locs h hP hD hS => ?_)
  refine lv_aload_n hx hb (dk DX3_parseAsk 38 rfl) rfl (lv_at hl 0 rfl) ?_
  refine cXv (As := []) (rest := []) X (hR0 _ _ _ h) (cwV 0 X.2.2.2.2.1 (gxV 340 341 342 231 372 rfl rfl rfl rfl rfl) rfl rfl rfl qG_0 ⟨rmG_f d, rmG_l d⟩) (rX_43 X hP) hP hD hS rfl hl.1 rfl (Nat.le_of_ble_eq_true rfl) (dk DX3_parseAsk 39 rfl) (fun S12 H locs h hP hD hS => ?_)
  refine lv_aload_n hx hb (dk DX3_parseAsk 40 rfl) rfl (lv_at hl 0 rfl) ?_
  refine lv_iload_n hx hb (dk DX3_parseAsk 41 rfl) rfl (lv_at hl 1 rfl) ?_
  refine lv_iconst (v := 0) hx hb (dk DX3_parseAsk 42 rfl) (by decide) ?_
  refine cXi (As := [.int x1, .int 0]) (rest := []) X (m_X3_emit_43 (l := l) (dC := dC) (dI := dI) (q := q) (cI := cI) (cT := cT) (en := en) (sz := _) x1 0 S12 h) (cwV 2 X.2.2.2.2.1 (gxV 330 331 332 231 322 rfl rfl rfl rfl rfl) rfl rfl rfl q_X3_emit_43 (rmG_c d (Nat.le_of_ble_eq_true rfl) (Nat.le_of_ble_eq_true rfl))) (rX_43 X hP) hP hD hS rfl hl.1 rfl (Nat.le_of_ble_eq_true rfl) (dk DX3_parseAsk 43 rfl) (fun r14 S13 H locs h hP hD hS => ?_)
  refine lv_pop hx hb (dk DX3_parseAsk 44 rfl) rfl ?_
  refine lv_goto (tgt := 89) hx hb (dk DX3_parseAsk 45 rfl) (by decide) ?_
  exact W.vret hx hb hr (fun t ht hW => ⟨⟨_, rfl, h, by rw [ht]; exact hP, va_K.moved hW.alike X.2.2.2.2.2.2.1, hD⟩, hS.F ht⟩) hS.2.2 (dk DX3_parseAsk 49 rfl)
set_option maxHeartbeats 4000000 in
set_option maxRecDepth 100000 in
theorem m_X3_parseAsk_43 {l : Launch} {dC : Nat → ClassId} {dI : Nat → Nat → Nat} {q : Nat → Nat} {cI cT : ClassId} {en : Nat → Nat} {sz : Nat} {Post : XS → Prop} {R : Nat → (XS → Prop) → XS → Prop} {d : Nat} (hR0 : ∀ (Post : XS → Prop) (S : XS) (sz : Nat), R 0 Post S → Met l yX3_parseSum ww_X3_parseSum_43 (rmG d) (va_Pc [.ref (q 43)] (preX dC dI q cI cT en S sz)) (va_Qv Post (atX dC dI q cI cT (va_A (wX q cI cT S) sz)) (va_A (wX q cI cT S) sz)) 0 0 (va_A (wX q cI cT S) sz)) (hR1 : ∀ (Post : XS → Prop) (S : XS) (sz : Nat), R 1 Post S → Met l yX3_parseProduct ww_X3_parseProduct_43 (rmG d) (va_Pc [.ref (q 43)] (preX dC dI q cI cT en S sz)) (va_Qv Post (atX dC dI q cI cT (va_A (wX q cI cT S) sz)) (va_A (wX q cI cT S) sz)) 0 0 (va_A (wX q cI cT S) sz)) (hR2 : ∀ (Post : XS → Prop) (S : XS) (sz : Nat), R 2 Post S → Met l yX3_parseOne ww_X3_parseOne_43 (rmG d) (va_Pc [.ref (q 43)] (preX dC dI q cI cT en S sz)) (va_Qv Post (atX dC dI q cI cT (va_A (wX q cI cT S) sz)) (va_A (wX q cI cT S) sz)) 0 0 (va_A (wX q cI cT S) sz)) (hR3 : ∀ (Post : XS → Prop) (S : XS) (sz : Nat), R 3 Post S → Met l yX3_parseChoice ww_X3_parseChoice_43 (rmG d) (va_Pc [.ref (q 43)] (preX dC dI q cI cT en S sz)) (va_Qv Post (atX dC dI q cI cT (va_A (wX q cI cT S) sz)) (va_A (wX q cI cT S) sz)) 0 0 (va_A (wX q cI cT S) sz)) (hR4 : ∀ (Post : XS → Prop) (S : XS) (sz : Nat), R 4 Post S → Met l yX3_parseEither ww_X3_parseEither_43 (rmG d) (va_Pc [.ref (q 43)] (preX dC dI q cI cT en S sz)) (va_Qv Post (atX dC dI q cI cT (va_A (wX q cI cT S) sz)) (va_A (wX q cI cT S) sz)) 0 0 (va_A (wX q cI cT S) sz)) (hR5 : ∀ (Post : XS → Prop) (S : XS) (sz : Nat), R 5 Post S → Met l yX3_parseBoth ww_X3_parseBoth_43 (rmG d) (va_Pc [.ref (q 43)] (preX dC dI q cI cT en S sz)) (va_Qv Post (atX dC dI q cI cT (va_A (wX q cI cT S) sz)) (va_A (wX q cI cT S) sz)) 0 0 (va_A (wX q cI cT S) sz)) (hR6 : ∀ (Post : XS → Prop) (S : XS) (sz : Nat), R 6 Post S → Met l yX3_parseAsk ww_X3_parseAsk_43 (rmG d) (va_Pc [.ref (q 43)] (preX dC dI q cI cT en S sz)) (va_Qv Post (atX dC dI q cI cT (va_A (wX q cI cT S) sz)) (va_A (wX q cI cT S) sz)) 0 0 (va_A (wX q cI cT S) sz)) (S : XS) (h : VC_X3_parseAsk_43 R Post S) : Met l yX3_parseAsk ww_X3_parseAsk_43 (rmG (d + 1)) (va_Pc [.ref (q 43)] (preX dC dI q cI cT en S sz)) (va_Qv Post (atX dC dI q cI cT (va_A (wX q cI cT S) sz)) (va_A (wX q cI cT S) sz)) 0 0 (va_A (wX q cI cT S) sz) := by
  refine oX (cc := cX3_parseAsk) (maxL := 2) (ret := none) (Qc := fun A => va_Qv Post (atX dC dI q cI cT A) A) (own := RX3) (by decide) rfl (fun w h => List.mem_cons_of_mem _ (List.mem_append_right _ h)) rfl (Nat.le_of_ble_eq_true rfl) (fun p e s m below meth c A ls X hr hlocks hP hD hS hl => ?_)
  have hx := X.1
  have hb := X.2.1
  have hl : lv_has ls 2 [(0, .ref (q 43))] := hl
  have lk60 := X.2.2.2.2.1 (.fieldLink RX3 60 "BreathOnLoan$Parser" "token" "I") (inX 228 rfl)
  have lk42 := X.2.2.2.2.1 (.fieldLink RX3 42 "BreathOnLoan$Parser" "open" "I") (inX 314 rfl)
  generalize hargs : ([.ref (q 43)] : List Value).toArray = args at X ⊢
  have h := h (fun hd S => match hd with | x1 => ∀ (H : Heap) (locs : List Loc), va_P (dC, dI) vwCl (wX q cI cT S) H → va_D A (wX q cI cT S) → va_S A s.heap H locs → ∀ ls : Array Slot, lv_has ls 2 [(0, .ref (q 43)), (1, .int x1)] → W p l e (headSpec ww_X3_parseAsk_43 (rmG (d + 1))).room s m args below meth c H locs 0 0 (MQ below (va_Qv Post (atX dC dI q cI cT A) A) args s 0 0 A) (F0 m 66 ls [])) ?_
  · skip
    refine lv_aload_n hx hb (dk DX3_parseAsk 0 rfl) rfl (lv_at hl 0 rfl) ?_
    refine gX_43 X hP 5 (by decide) rfl lk60 (dk DX3_parseAsk 1 rfl) ?_
    refine lv_bipush (v := 45) hx hb (dk DX3_parseAsk 2 rfl) (by decide) ?_
    refine lv_icmp_ne (tgt := 36) hx hb (dk DX3_parseAsk 3 rfl) (by decide) (fun hc => ?_) (fun hc => ?_)
    · have h := h.1 hc
      refine lv_aload_n hx hb (dk DX3_parseAsk 20 rfl) rfl (lv_at hl 0 rfl) ?_
      refine cXv (As := []) (rest := []) X (hR0 _ _ _ h) (cwV 0 X.2.2.2.2.1 (gxV 340 341 342 231 372 rfl rfl rfl rfl rfl) rfl rfl rfl qG_0 ⟨rmG_f d, rmG_l d⟩) (rX_43 X hP) hP hD hS rfl hl.1 rfl (Nat.le_of_ble_eq_true rfl) (dk DX3_parseAsk 21 rfl) (fun S1 H locs h hP hD hS => ?_)
      refine lv_aload_n hx hb (dk DX3_parseAsk 22 rfl) rfl (lv_at hl 0 rfl) ?_
      refine gX_43 X hP 5 (by decide) rfl lk60 (dk DX3_parseAsk 23 rfl) ?_
      refine lv_topi (fun v2 ev2 => ?_)
      have h := h v2 ev2
      refine lv_istore_n (lv' := [(1, .int v2), (0, .ref (q 43))]) hx hb (dk DX3_parseAsk 24 rfl) rfl hl (by decide) rfl (fun ls hl => ?_)
      refine lv_iload_n hx hb (dk DX3_parseAsk 25 rfl) rfl (lv_at hl 0 rfl) ?_
      refine lv_iconst (v := 0) hx hb (dk DX3_parseAsk 26 rfl) (by decide) ?_
      refine lv_iconst (v := 3) hx hb (dk DX3_parseAsk 27 rfl) (by decide) ?_
      refine cNi (As := [.int v2, .int 0, .int 3]) (rest := []) ⟨X.1, X.2.1, X.2.2.1, X.2.2.2.1, X.2.2.2.2.1⟩ (m_X11_within (l := l) v2 0 3 h) ⟨va_cnB (host := "BreathOnLoan") 3 X.2.2.2.2.1 (gxB (List.mem_of_getElem? (i := 324) rfl)) rfl rfl rfl (X.2.2.2.2.2.2.2.2.1.1 _ (List.mem_of_getElem? (i := 0) rfl)) (X.2.2.2.2.1 (.initialized RX11) (inX 16 rfl)) q_X11_within (rmG_c d (Nat.le_of_ble_eq_true rfl) (Nat.le_of_ble_eq_true rfl)), X.2.2.2.2.1 (.static yX11_within) (inX 327 rfl), trivial⟩ rfl hl.1 rfl (Nat.le_of_ble_eq_true rfl) (dk DX3_parseAsk 28 rfl) (fun r3 h => ?_)
      refine lv_if_ne (tgt := 66) hx hb (dk DX3_parseAsk 29 rfl) (by decide) (fun hc => ?_) (fun hc => ?_)
      · have h := h.1 hc
        exact h _ _ hP hD hS ls (lv_sub hl [1, 0] rfl)
      · have h := h.2 hc
        refine lv_iload_n hx hb (dk DX3_parseAsk 30 rfl) rfl (lv_at hl 0 rfl) ?_
        refine lv_bipush (v := 13) hx hb (dk DX3_parseAsk 31 rfl) (by decide) ?_
        refine lv_icmp_eq (tgt := 66) hx hb (dk DX3_parseAsk 32 rfl) (by decide) (fun hc => ?_) (fun hc => ?_)
        · have h := h.1 hc
          exact h _ _ hP hD hS ls (lv_sub hl [1, 0] rfl)
        · have h := h.2 hc
          refine lv_iload_n hx hb (dk DX3_parseAsk 33 rfl) rfl (lv_at hl 0 rfl) ?_
          refine lv_bipush (v := 14) hx hb (dk DX3_parseAsk 34 rfl) (by decide) ?_
          refine lv_icmp_ne (tgt := 84) hx hb (dk DX3_parseAsk 35 rfl) (by decide) (fun hc => ?_) (fun hc => ?_)
          · have h := h.1 hc
            refine lv_aload_n hx hb (dk DX3_parseAsk 46 rfl) rfl (lv_at hl 1 rfl) ?_
            refine lv_iconst (v := 1) hx hb (dk DX3_parseAsk 47 rfl) (by decide) ?_
            refine cXv (As := [.int 1]) (rest := []) X (m_X3_fail_43 (l := l) (dC := dC) (dI := dI) (q := q) (cI := cI) (cT := cT) (en := en) (sz := _) 1 S1 h) (cwV 1 X.2.2.2.2.1 (gxV 315 316 317 231 313 rfl rfl rfl rfl rfl) rfl rfl rfl q_X3_fail_43 (rmG_c d (Nat.le_of_ble_eq_true rfl) (Nat.le_of_ble_eq_true rfl))) (rX_43 X hP) hP hD hS rfl hl.1 rfl (Nat.le_of_ble_eq_true rfl) (dk DX3_parseAsk 48 rfl) (fun S4 H locs h hP hD hS => ?_)
            exact W.vret hx hb hr (fun t ht hW => ⟨⟨_, rfl, h, by rw [ht]; exact hP, va_K.moved hW.alike X.2.2.2.2.2.2.1, hD⟩, hS.F ht⟩) hS.2.2 (dk DX3_parseAsk 49 rfl)
          · have h := h.2 hc
            exact h _ _ hP hD hS ls (lv_sub hl [1, 0] rfl)
    · have h := h.2 hc
      refine lv_aload_n hx hb (dk DX3_parseAsk 4 rfl) rfl (lv_at hl 0 rfl) ?_
      refine cXv (As := []) (rest := []) X (m_X3_enter_43 (l := l) (dC := dC) (dI := dI) (q := q) (cI := cI) (cT := cT) (en := en) (sz := _) S h) (cwV 0 X.2.2.2.2.1 (gxV 334 335 336 231 321 rfl rfl rfl rfl rfl) rfl rfl rfl q_X3_enter_43 (rmG_c d (Nat.le_of_ble_eq_true rfl) (Nat.le_of_ble_eq_true rfl))) (rX_43 X hP) hP hD hS rfl hl.1 rfl (Nat.le_of_ble_eq_true rfl) (dk DX3_parseAsk 5 rfl) (fun S5 H locs h hP hD hS => ?_)
      refine lv_aload_n hx hb (dk DX3_parseAsk 6 rfl) rfl (lv_at hl 0 rfl) ?_
      refine cXv (As := []) (rest := []) X (hR6 _ _ _ h) (cwV 0 X.2.2.2.2.1 (gxV 337 338 339 231 376 rfl rfl rfl rfl rfl) rfl rfl rfl qG_6 ⟨rmG_f d, rmG_l d⟩) (rX_43 X hP) hP hD hS rfl hl.1 rfl (Nat.le_of_ble_eq_true rfl) (dk DX3_parseAsk 7 rfl) (fun S6 H locs h hP hD hS => ?_)
      refine lv_aload_n hx hb (dk DX3_parseAsk 8 rfl) rfl (lv_at hl 0 rfl) ?_
      refine lv_bipush (v := 45) hx hb (dk DX3_parseAsk 9 rfl) (by decide) ?_
      refine lv_iconst (v := 0) hx hb (dk DX3_parseAsk 10 rfl) (by decide) ?_
      refine cXi (As := [.int 45, .int 0]) (rest := []) X (m_X3_emit_43 (l := l) (dC := dC) (dI := dI) (q := q) (cI := cI) (cT := cT) (en := en) (sz := _) 45 0 S6 h) (cwV 2 X.2.2.2.2.1 (gxV 330 331 332 231 322 rfl rfl rfl rfl rfl) rfl rfl rfl q_X3_emit_43 (rmG_c d (Nat.le_of_ble_eq_true rfl) (Nat.le_of_ble_eq_true rfl))) (rX_43 X hP) hP hD hS rfl hl.1 rfl (Nat.le_of_ble_eq_true rfl) (dk DX3_parseAsk 11 rfl) (fun r8 S7 H locs h hP hD hS => ?_)
      refine lv_pop hx hb (dk DX3_parseAsk 12 rfl) rfl ?_
      refine lv_aload_n hx hb (dk DX3_parseAsk 13 rfl) rfl (lv_at hl 0 rfl) ?_
      refine lv_dup hx hb (dk DX3_parseAsk 14 rfl) rfl ?_
      refine gX_43 X hP 8 (by decide) rfl lk42 (dk DX3_parseAsk 15 rfl) ?_
      refine lv_iconst (v := 1) hx hb (dk DX3_parseAsk 16 rfl) (by decide) ?_
      refine lv_isub hx hb (dk DX3_parseAsk 17 rfl) ?_
      refine lv_topi (fun v9 ev9 => ?_)
      have h := h v9 ev9
      refine pX_43_8 X hP hD hS lk42 (dk DX3_parseAsk 18 rfl) (fun S10 eS10 H locs hP hD hS => ?_)
      have h := h S10 eS10
      exact W.vret hx hb hr (fun t ht hW => ⟨⟨_, rfl, h, by rw [ht]; exact hP, va_K.moved hW.alike X.2.2.2.2.2.2.1, hD⟩, hS.F ht⟩) hS.2.2 (dk DX3_parseAsk 19 rfl)
  · rintro x1 S hB
    exact h_X3_parseAsk_43_0 hR0 hR1 hR2 hR3 hR4 hR5 hR6 X hr hlocks (hK0 := fun _ _ h => h) x1 S hB

def VG : Nat → Nat → (XS → Prop) → XS → Prop
  | 0, _, _, _ => False
  | d + 1, k, Post, S => match k with
    | 0 => VC_X3_parseSum_43 (VG d) Post S
    | 1 => VC_X3_parseProduct_43 (VG d) Post S
    | 2 => VC_X3_parseOne_43 (VG d) Post S
    | 3 => VC_X3_parseChoice_43 (VG d) Post S
    | 4 => VC_X3_parseEither_43 (VG d) Post S
    | 5 => VC_X3_parseBoth_43 (VG d) Post S
    | 6 => VC_X3_parseAsk_43 (VG d) Post S
    | _ => False
theorem mG_all {l : Launch} {dC : Nat → ClassId} {dI : Nat → Nat → Nat} {q : Nat → Nat} {cI cT : ClassId} {en : Nat → Nat} : ∀ d : Nat, (∀ (Post : XS → Prop) (S : XS) (sz : Nat), VG d 0 Post S → Met l yX3_parseSum ww_X3_parseSum_43 (rmG d) (va_Pc [.ref (q 43)] (preX dC dI q cI cT en S sz)) (va_Qv Post (atX dC dI q cI cT (va_A (wX q cI cT S) sz)) (va_A (wX q cI cT S) sz)) 0 0 (va_A (wX q cI cT S) sz)) ∧ (∀ (Post : XS → Prop) (S : XS) (sz : Nat), VG d 1 Post S → Met l yX3_parseProduct ww_X3_parseProduct_43 (rmG d) (va_Pc [.ref (q 43)] (preX dC dI q cI cT en S sz)) (va_Qv Post (atX dC dI q cI cT (va_A (wX q cI cT S) sz)) (va_A (wX q cI cT S) sz)) 0 0 (va_A (wX q cI cT S) sz)) ∧ (∀ (Post : XS → Prop) (S : XS) (sz : Nat), VG d 2 Post S → Met l yX3_parseOne ww_X3_parseOne_43 (rmG d) (va_Pc [.ref (q 43)] (preX dC dI q cI cT en S sz)) (va_Qv Post (atX dC dI q cI cT (va_A (wX q cI cT S) sz)) (va_A (wX q cI cT S) sz)) 0 0 (va_A (wX q cI cT S) sz)) ∧ (∀ (Post : XS → Prop) (S : XS) (sz : Nat), VG d 3 Post S → Met l yX3_parseChoice ww_X3_parseChoice_43 (rmG d) (va_Pc [.ref (q 43)] (preX dC dI q cI cT en S sz)) (va_Qv Post (atX dC dI q cI cT (va_A (wX q cI cT S) sz)) (va_A (wX q cI cT S) sz)) 0 0 (va_A (wX q cI cT S) sz)) ∧ (∀ (Post : XS → Prop) (S : XS) (sz : Nat), VG d 4 Post S → Met l yX3_parseEither ww_X3_parseEither_43 (rmG d) (va_Pc [.ref (q 43)] (preX dC dI q cI cT en S sz)) (va_Qv Post (atX dC dI q cI cT (va_A (wX q cI cT S) sz)) (va_A (wX q cI cT S) sz)) 0 0 (va_A (wX q cI cT S) sz)) ∧ (∀ (Post : XS → Prop) (S : XS) (sz : Nat), VG d 5 Post S → Met l yX3_parseBoth ww_X3_parseBoth_43 (rmG d) (va_Pc [.ref (q 43)] (preX dC dI q cI cT en S sz)) (va_Qv Post (atX dC dI q cI cT (va_A (wX q cI cT S) sz)) (va_A (wX q cI cT S) sz)) 0 0 (va_A (wX q cI cT S) sz)) ∧ (∀ (Post : XS → Prop) (S : XS) (sz : Nat), VG d 6 Post S → Met l yX3_parseAsk ww_X3_parseAsk_43 (rmG d) (va_Pc [.ref (q 43)] (preX dC dI q cI cT en S sz)) (va_Qv Post (atX dC dI q cI cT (va_A (wX q cI cT S) sz)) (va_A (wX q cI cT S) sz)) 0 0 (va_A (wX q cI cT S) sz))
  | 0 => ⟨fun _ _ _ h => False.elim h, fun _ _ _ h => False.elim h, fun _ _ _ h => False.elim h, fun _ _ _ h => False.elim h, fun _ _ _ h => False.elim h, fun _ _ _ h => False.elim h, fun _ _ _ h => False.elim h⟩
  | d + 1 => by
    have ih := mG_all (l := l) (dC := dC) (dI := dI) (q := q) (cI := cI) (cT := cT) (en := en) d
    exact ⟨fun Post S sz h => m_X3_parseSum_43 (R := VG d) (d := d) ih.1 ih.2.1 ih.2.2.1 ih.2.2.2.1 ih.2.2.2.2.1 ih.2.2.2.2.2.1 ih.2.2.2.2.2.2 S h, fun Post S sz h => m_X3_parseProduct_43 (R := VG d) (d := d) ih.1 ih.2.1 ih.2.2.1 ih.2.2.2.1 ih.2.2.2.2.1 ih.2.2.2.2.2.1 ih.2.2.2.2.2.2 S h, fun Post S sz h => m_X3_parseOne_43 (R := VG d) (d := d) ih.1 ih.2.1 ih.2.2.1 ih.2.2.2.1 ih.2.2.2.2.1 ih.2.2.2.2.2.1 ih.2.2.2.2.2.2 S h, fun Post S sz h => m_X3_parseChoice_43 (R := VG d) (d := d) ih.1 ih.2.1 ih.2.2.1 ih.2.2.2.1 ih.2.2.2.2.1 ih.2.2.2.2.2.1 ih.2.2.2.2.2.2 S h, fun Post S sz h => m_X3_parseEither_43 (R := VG d) (d := d) ih.1 ih.2.1 ih.2.2.1 ih.2.2.2.1 ih.2.2.2.2.1 ih.2.2.2.2.2.1 ih.2.2.2.2.2.2 S h, fun Post S sz h => m_X3_parseBoth_43 (R := VG d) (d := d) ih.1 ih.2.1 ih.2.2.1 ih.2.2.2.1 ih.2.2.2.2.1 ih.2.2.2.2.2.1 ih.2.2.2.2.2.2 S h, fun Post S sz h => m_X3_parseAsk_43 (R := VG d) (d := d) ih.1 ih.2.1 ih.2.2.1 ih.2.2.2.1 ih.2.2.2.2.1 ih.2.2.2.2.2.1 ih.2.2.2.2.2.2 S h⟩
theorem mG_0 {l : Launch} {dC : Nat → ClassId} {dI : Nat → Nat → Nat} {q : Nat → Nat} {cI cT : ClassId} {en : Nat → Nat} (d : Nat) (Post : XS → Prop) (S : XS) (sz : Nat) (h : VG d 0 Post S) : Met l yX3_parseSum ww_X3_parseSum_43 (rmG d) (va_Pc [.ref (q 43)] (preX dC dI q cI cT en S sz)) (va_Qv Post (atX dC dI q cI cT (va_A (wX q cI cT S) sz)) (va_A (wX q cI cT S) sz)) 0 0 (va_A (wX q cI cT S) sz) := (mG_all d).1 Post S sz h
theorem mG_1 {l : Launch} {dC : Nat → ClassId} {dI : Nat → Nat → Nat} {q : Nat → Nat} {cI cT : ClassId} {en : Nat → Nat} (d : Nat) (Post : XS → Prop) (S : XS) (sz : Nat) (h : VG d 1 Post S) : Met l yX3_parseProduct ww_X3_parseProduct_43 (rmG d) (va_Pc [.ref (q 43)] (preX dC dI q cI cT en S sz)) (va_Qv Post (atX dC dI q cI cT (va_A (wX q cI cT S) sz)) (va_A (wX q cI cT S) sz)) 0 0 (va_A (wX q cI cT S) sz) := (mG_all d).2.1 Post S sz h
theorem mG_2 {l : Launch} {dC : Nat → ClassId} {dI : Nat → Nat → Nat} {q : Nat → Nat} {cI cT : ClassId} {en : Nat → Nat} (d : Nat) (Post : XS → Prop) (S : XS) (sz : Nat) (h : VG d 2 Post S) : Met l yX3_parseOne ww_X3_parseOne_43 (rmG d) (va_Pc [.ref (q 43)] (preX dC dI q cI cT en S sz)) (va_Qv Post (atX dC dI q cI cT (va_A (wX q cI cT S) sz)) (va_A (wX q cI cT S) sz)) 0 0 (va_A (wX q cI cT S) sz) := (mG_all d).2.2.1 Post S sz h
theorem mG_3 {l : Launch} {dC : Nat → ClassId} {dI : Nat → Nat → Nat} {q : Nat → Nat} {cI cT : ClassId} {en : Nat → Nat} (d : Nat) (Post : XS → Prop) (S : XS) (sz : Nat) (h : VG d 3 Post S) : Met l yX3_parseChoice ww_X3_parseChoice_43 (rmG d) (va_Pc [.ref (q 43)] (preX dC dI q cI cT en S sz)) (va_Qv Post (atX dC dI q cI cT (va_A (wX q cI cT S) sz)) (va_A (wX q cI cT S) sz)) 0 0 (va_A (wX q cI cT S) sz) := (mG_all d).2.2.2.1 Post S sz h
theorem mG_4 {l : Launch} {dC : Nat → ClassId} {dI : Nat → Nat → Nat} {q : Nat → Nat} {cI cT : ClassId} {en : Nat → Nat} (d : Nat) (Post : XS → Prop) (S : XS) (sz : Nat) (h : VG d 4 Post S) : Met l yX3_parseEither ww_X3_parseEither_43 (rmG d) (va_Pc [.ref (q 43)] (preX dC dI q cI cT en S sz)) (va_Qv Post (atX dC dI q cI cT (va_A (wX q cI cT S) sz)) (va_A (wX q cI cT S) sz)) 0 0 (va_A (wX q cI cT S) sz) := (mG_all d).2.2.2.2.1 Post S sz h
theorem mG_5 {l : Launch} {dC : Nat → ClassId} {dI : Nat → Nat → Nat} {q : Nat → Nat} {cI cT : ClassId} {en : Nat → Nat} (d : Nat) (Post : XS → Prop) (S : XS) (sz : Nat) (h : VG d 5 Post S) : Met l yX3_parseBoth ww_X3_parseBoth_43 (rmG d) (va_Pc [.ref (q 43)] (preX dC dI q cI cT en S sz)) (va_Qv Post (atX dC dI q cI cT (va_A (wX q cI cT S) sz)) (va_A (wX q cI cT S) sz)) 0 0 (va_A (wX q cI cT S) sz) := (mG_all d).2.2.2.2.2.1 Post S sz h
theorem mG_6 {l : Launch} {dC : Nat → ClassId} {dI : Nat → Nat → Nat} {q : Nat → Nat} {cI cT : ClassId} {en : Nat → Nat} (d : Nat) (Post : XS → Prop) (S : XS) (sz : Nat) (h : VG d 6 Post S) : Met l yX3_parseAsk ww_X3_parseAsk_43 (rmG d) (va_Pc [.ref (q 43)] (preX dC dI q cI cT en S sz)) (va_Qv Post (atX dC dI q cI cT (va_A (wX q cI cT S) sz)) (va_A (wX q cI cT S) sz)) 0 0 (va_A (wX q cI cT S) sz) := (mG_all d).2.2.2.2.2.2 Post S sz h

