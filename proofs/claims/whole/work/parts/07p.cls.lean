-- X3_parseClause_43 X9_clauses_x X9_orderOf_x X9_hasLaw_x X9_firstOf_x X9_behind_x X9_codeAt_x X5_textAt_1 X5_addText_1 X2_lawText_1
def ww_X3_parseClause_43 : List Cond := .code yX3_parseClause cX3_parseClause 4 none :: (WdX ++ WsX)
theorem q_X3_parseClause_43 : yX3_parseClause.cls = RX3 ∧ yX3_parseClause.cls ≠ "java/lang/invoke/MethodHandle" ∧ yX3_parseClause.cls ≠ "java/lang/invoke/VarHandle" ∧ (parseMethodDescriptor yX3_parseClause.desc).map (fun d => d.parameters.length) = some 0 := by decide +kernel
abbrev Hd_X3_parseClause_43 : Type := (Int32) ⊕ (Int32 × Int32) ⊕ (Int32 × Int32) ⊕ (Int32 × Int32 × Int32)
def B_X3_parseClause_43 (Post : XS → Prop) (K : Hd_X3_parseClause_43 → XS → Prop) : Hd_X3_parseClause_43 → XS → Prop
  | (.inl x1), S => VC_X3_fail_43 (fun S2 => Post S2) 1 S
  | (.inr (.inl (x1, t0))), S => ((t0 = 0 → K (.inr (.inr (.inl (x1, t0)))) S) ∧ (¬ t0 = 0 → vp_in (x1 - 32) 4 ∧ ((((S.2.1 45) (x1 - 32).toNatClampNeg) = (-1) → K (.inr (.inr (.inl (x1, t0)))) S) ∧ (¬ ((S.2.1 45) (x1 - 32).toNatClampNeg) = (-1) → VC_X3_fail_43 (fun S3 => Post S3) 4 S))))
  | (.inr (.inr (.inl (x1, x2)))), S => (((S.1 1386) < 24 → ∀ v4 : Int32, v4 = 4 * (S.1 1386) → ∀ v5 : Int32, v5 = (S.1 1386) + 1 → ∀ S6 : XS, S6 = xI S 1386 v5 → vp_in v4 96 ∧ ∀ S7 : XS, S7 = xF S6 47 (upd (S6.2.1 47) v4.toNatClampNeg x1) → VC_X3_advance_43 (fun S8 => ((x2 = 0 → VC_X3_parseDeed_43 (fun S9 => K (.inr (.inr (.inr (x1, x2, v4)))) S9) x1 v4 S8) ∧ (¬ x2 = 0 → ∀ v10 : Int32, v10 = x1 - 32 → ∀ S11 : XS, S11 = xI S8 1385 v10 → ∀ v12 : Int32, v12 = (S11.1 1387) → vp_in (S11.1 1385) 4 ∧ ∀ S13 : XS, S13 = xF S11 45 (upd (S11.2.1 45) (S11.1 1385).toNatClampNeg v12) → VG 100 0 (fun S14 => ∀ v15 : Int32, v15 = (S14.1 1387) → vp_in (S14.1 1385) 4 ∧ ∀ S16 : XS, S16 = xF S14 46 (upd (S14.2.1 46) (S14.1 1385).toNatClampNeg v15) → K (.inr (.inr (.inr (x1, x2, v4)))) S16) S13))) S7) ∧ (¬ (S.1 1386) < 24 → VC_X3_fail_43 (fun S17 => Post S17) 6 S))
  | (.inr (.inr (.inr (x1, x2, x3)))), S => VC_X3_expect_43 (fun S18 => Post S18) 10 S
def VC_X3_parseClause_43 (Post : XS → Prop) (S : XS) : Prop := ∀ K : Hd_X3_parseClause_43 → XS → Prop, (∀ h S, B_X3_parseClause_43 Post K h S → K h S) → ∀ v1 : Int32, v1 = (S.1 1381) → ((v1 < 32 → K (.inl v1) S) ∧ (¬ v1 < 32 → ((v1 ≤ 38 → ((36 ≤ v1 → K (.inr (.inl (v1, 0))) S) ∧ (¬ 36 ≤ v1 → K (.inr (.inl (v1, 1))) S))) ∧ (¬ v1 ≤ 38 → K (.inl v1) S))))
set_option maxHeartbeats 4000000 in
set_option maxRecDepth 100000 in
theorem h_X3_parseClause_43_0 {p : Program} {l : Launch} {e : Env} {s : State} {m : MethodId} {below : List Frame} {meth : Method} {c : Code} {dC : Nat → ClassId} {dI : Nat → Nat → Nat} {q : Nat → Nat} {cI cT : ClassId} {en : Nat → Nat} {A : Nat → Prop} {args : Array Value} {Post : XS → Prop} {K : Hd_X3_parseClause_43 → XS → Prop} (X : XX p s m args c cX3_parseClause 4 ww_X3_parseClause_43 RX3 dC dI cI cT en A) (hr : meth.sig.returnType = none) (hlocks : meth.locks = false) (hK0 : ∀ (x1 : Int32) (S : XS), K (.inl x1) S → ∀ (H : Heap) (locs : List Loc), va_P (dC, dI) vwCl (wX q cI cT S) H → va_D A (wX q cI cT S) → va_S A s.heap H locs → ∀ ls : Array Slot, lv_has ls 4 [(0, .ref (q 43)), (1, .int x1)] → W p l e (headSpec ww_X3_parseClause_43 ({ frames := 113, cells := 0, slots := 0, locals := 4440 } : Room)).room s m args below meth c H locs 0 0 (MQ below (va_Qv Post (atX dC dI q cI cT A) A) args s 0 0 A) (F0 m 17 ls [])) (hK1 : ∀ (x1 : Int32) (t0 : Int32) (S : XS), K (.inr (.inl (x1, t0))) S → ∀ (H : Heap) (locs : List Loc), va_P (dC, dI) vwCl (wX q cI cT S) H → va_D A (wX q cI cT S) → va_S A s.heap H locs → ∀ ls : Array Slot, lv_has ls 4 [(0, .ref (q 43)), (1, .int x1)] → W p l e (headSpec ww_X3_parseClause_43 ({ frames := 113, cells := 0, slots := 0, locals := 4440 } : Room)).room s m args below meth c H locs 0 0 (MQ below (va_Qv Post (atX dC dI q cI cT A) A) args s 0 0 A) (F0 m 34 ls [.int t0])) (hK2 : ∀ (x1 : Int32) (x2 : Int32) (S : XS), K (.inr (.inr (.inl (x1, x2)))) S → ∀ (H : Heap) (locs : List Loc), va_P (dC, dI) vwCl (wX q cI cT S) H → va_D A (wX q cI cT S) → va_S A s.heap H locs → ∀ ls : Array Slot, lv_has ls 4 [(0, .ref (q 43)), (1, .int x1), (2, .int x2)] → W p l e (headSpec ww_X3_parseClause_43 ({ frames := 113, cells := 0, slots := 0, locals := 4440 } : Room)).room s m args below meth c H locs 0 0 (MQ below (va_Qv Post (atX dC dI q cI cT A) A) args s 0 0 A) (F0 m 58 ls [])) (hK3 : ∀ (x1 : Int32) (x2 : Int32) (x3 : Int32) (S : XS), K (.inr (.inr (.inr (x1, x2, x3)))) S → ∀ (H : Heap) (locs : List Loc), va_P (dC, dI) vwCl (wX q cI cT S) H → va_D A (wX q cI cT S) → va_S A s.heap H locs → ∀ ls : Array Slot, lv_has ls 4 [(0, .ref (q 43)), (1, .int x1), (2, .int x2), (3, .int x3)] → W p l e (headSpec ww_X3_parseClause_43 ({ frames := 113, cells := 0, slots := 0, locals := 4440 } : Room)).room s m args below meth c H locs 0 0 (MQ below (va_Qv Post (atX dC dI q cI cT A) A) args s 0 0 A) (F0 m 153 ls [])) (x1 : Int32) (S : XS) (h : B_X3_parseClause_43 Post K (.inl x1) S) : ∀ (H : Heap) (locs : List Loc), va_P (dC, dI) vwCl (wX q cI cT S) H → va_D A (wX q cI cT S) → va_S A s.heap H locs → ∀ ls : Array Slot, lv_has ls 4 [(0, .ref (q 43)), (1, .int x1)] → W p l e (headSpec ww_X3_parseClause_43 ({ frames := 113, cells := 0, slots := 0, locals := 4440 } : Room)).room s m args below meth c H locs 0 0 (MQ below (va_Qv Post (atX dC dI q cI cT A) A) args s 0 0 A) (F0 m 17 ls []) := by
  have hx := X.1
  have hb := X.2.1
  intro H locs hP hD hS ls hl
  have lk60 := X.2.2.2.2.1 (.fieldLink RX3 60 "BreathOnLoan$Parser" "token" "I") (inX 228 rfl)
  have lk19 := X.2.2.2.2.1 (.fieldLink RX3 19 "BreathOnLoan$Parser" "lawFrom" "[I") (inX 171 rfl)
  have lk45 := X.2.2.2.2.1 (.fieldLink RX3 45 "BreathOnLoan$Parser" "clauses" "I") (inX 378 rfl)
  have lk25 := X.2.2.2.2.1 (.fieldLink RX3 25 "BreathOnLoan$Parser" "rows" "[I") (inX 173 rfl)
  have lk84 := X.2.2.2.2.1 (.fieldLink RX3 84 "BreathOnLoan$Parser" "law" "I") (inX 329 rfl)
  have lk48 := X.2.2.2.2.1 (.fieldLink RX3 48 "BreathOnLoan$Parser" "size" "I") (inX 323 rfl)
  have lk22 := X.2.2.2.2.1 (.fieldLink RX3 22 "BreathOnLoan$Parser" "lawTo" "[I") (inX 172 rfl)
  dsimp only [B_X3_parseClause_43] at h
  refine lv_aload_n hx hb (dk DX3_parseClause 9 rfl) rfl (lv_at hl 0 rfl) ?_
  refine lv_iconst (v := 1) hx hb (dk DX3_parseClause 10 rfl) (by decide) ?_
  refine cXv (As := [.int 1]) (rest := []) X (m_X3_fail_43 (l := l) (dC := dC) (dI := dI) (q := q) (cI := cI) (cT := cT) (en := en) (sz := _) 1 S h) (cwV 1 X.2.2.2.2.1 (gxV 315 316 317 231 313 rfl rfl rfl rfl rfl) rfl rfl rfl q_X3_fail_43 ⟨Nat.le_of_ble_eq_true rfl, Nat.le_of_ble_eq_true rfl⟩) (rX_43 X hP) hP hD hS rfl hl.1 rfl (Nat.le_of_ble_eq_true rfl) (dk DX3_parseClause 11 rfl) (fun S2 H locs h hP hD hS => ?_)
  exact W.vret hx hb hr (fun t ht hW => ⟨⟨_, rfl, h, by rw [ht]; exact hP, va_K.moved hW.alike X.2.2.2.2.2.2.1, hD⟩, hS.F ht⟩) hS.2.2 (dk DX3_parseClause 12 rfl)
set_option maxHeartbeats 4000000 in
set_option maxRecDepth 100000 in
theorem h_X3_parseClause_43_1 {p : Program} {l : Launch} {e : Env} {s : State} {m : MethodId} {below : List Frame} {meth : Method} {c : Code} {dC : Nat → ClassId} {dI : Nat → Nat → Nat} {q : Nat → Nat} {cI cT : ClassId} {en : Nat → Nat} {A : Nat → Prop} {args : Array Value} {Post : XS → Prop} {K : Hd_X3_parseClause_43 → XS → Prop} (X : XX p s m args c cX3_parseClause 4 ww_X3_parseClause_43 RX3 dC dI cI cT en A) (hr : meth.sig.returnType = none) (hlocks : meth.locks = false) (hK0 : ∀ (x1 : Int32) (S : XS), K (.inl x1) S → ∀ (H : Heap) (locs : List Loc), va_P (dC, dI) vwCl (wX q cI cT S) H → va_D A (wX q cI cT S) → va_S A s.heap H locs → ∀ ls : Array Slot, lv_has ls 4 [(0, .ref (q 43)), (1, .int x1)] → W p l e (headSpec ww_X3_parseClause_43 ({ frames := 113, cells := 0, slots := 0, locals := 4440 } : Room)).room s m args below meth c H locs 0 0 (MQ below (va_Qv Post (atX dC dI q cI cT A) A) args s 0 0 A) (F0 m 17 ls [])) (hK1 : ∀ (x1 : Int32) (t0 : Int32) (S : XS), K (.inr (.inl (x1, t0))) S → ∀ (H : Heap) (locs : List Loc), va_P (dC, dI) vwCl (wX q cI cT S) H → va_D A (wX q cI cT S) → va_S A s.heap H locs → ∀ ls : Array Slot, lv_has ls 4 [(0, .ref (q 43)), (1, .int x1)] → W p l e (headSpec ww_X3_parseClause_43 ({ frames := 113, cells := 0, slots := 0, locals := 4440 } : Room)).room s m args below meth c H locs 0 0 (MQ below (va_Qv Post (atX dC dI q cI cT A) A) args s 0 0 A) (F0 m 34 ls [.int t0])) (hK2 : ∀ (x1 : Int32) (x2 : Int32) (S : XS), K (.inr (.inr (.inl (x1, x2)))) S → ∀ (H : Heap) (locs : List Loc), va_P (dC, dI) vwCl (wX q cI cT S) H → va_D A (wX q cI cT S) → va_S A s.heap H locs → ∀ ls : Array Slot, lv_has ls 4 [(0, .ref (q 43)), (1, .int x1), (2, .int x2)] → W p l e (headSpec ww_X3_parseClause_43 ({ frames := 113, cells := 0, slots := 0, locals := 4440 } : Room)).room s m args below meth c H locs 0 0 (MQ below (va_Qv Post (atX dC dI q cI cT A) A) args s 0 0 A) (F0 m 58 ls [])) (hK3 : ∀ (x1 : Int32) (x2 : Int32) (x3 : Int32) (S : XS), K (.inr (.inr (.inr (x1, x2, x3)))) S → ∀ (H : Heap) (locs : List Loc), va_P (dC, dI) vwCl (wX q cI cT S) H → va_D A (wX q cI cT S) → va_S A s.heap H locs → ∀ ls : Array Slot, lv_has ls 4 [(0, .ref (q 43)), (1, .int x1), (2, .int x2), (3, .int x3)] → W p l e (headSpec ww_X3_parseClause_43 ({ frames := 113, cells := 0, slots := 0, locals := 4440 } : Room)).room s m args below meth c H locs 0 0 (MQ below (va_Qv Post (atX dC dI q cI cT A) A) args s 0 0 A) (F0 m 153 ls [])) (x1 : Int32) (t0 : Int32) (S : XS) (h : B_X3_parseClause_43 Post K (.inr (.inl (x1, t0))) S) : ∀ (H : Heap) (locs : List Loc), va_P (dC, dI) vwCl (wX q cI cT S) H → va_D A (wX q cI cT S) → va_S A s.heap H locs → ∀ ls : Array Slot, lv_has ls 4 [(0, .ref (q 43)), (1, .int x1)] → W p l e (headSpec ww_X3_parseClause_43 ({ frames := 113, cells := 0, slots := 0, locals := 4440 } : Room)).room s m args below meth c H locs 0 0 (MQ below (va_Qv Post (atX dC dI q cI cT A) A) args s 0 0 A) (F0 m 34 ls [.int t0]) := by
  have hx := X.1
  have hb := X.2.1
  intro H locs hP hD hS ls hl
  have lk60 := X.2.2.2.2.1 (.fieldLink RX3 60 "BreathOnLoan$Parser" "token" "I") (inX 228 rfl)
  have lk19 := X.2.2.2.2.1 (.fieldLink RX3 19 "BreathOnLoan$Parser" "lawFrom" "[I") (inX 171 rfl)
  have lk45 := X.2.2.2.2.1 (.fieldLink RX3 45 "BreathOnLoan$Parser" "clauses" "I") (inX 378 rfl)
  have lk25 := X.2.2.2.2.1 (.fieldLink RX3 25 "BreathOnLoan$Parser" "rows" "[I") (inX 173 rfl)
  have lk84 := X.2.2.2.2.1 (.fieldLink RX3 84 "BreathOnLoan$Parser" "law" "I") (inX 329 rfl)
  have lk48 := X.2.2.2.2.1 (.fieldLink RX3 48 "BreathOnLoan$Parser" "size" "I") (inX 323 rfl)
  have lk22 := X.2.2.2.2.1 (.fieldLink RX3 22 "BreathOnLoan$Parser" "lawTo" "[I") (inX 172 rfl)
  dsimp only [B_X3_parseClause_43] at h
  refine lv_istore_n (lv' := [(2, .int t0), (0, .ref (q 43)), (1, .int x1)]) hx hb (dk DX3_parseClause 19 rfl) rfl hl (by decide) rfl (fun ls hl => ?_)
  refine lv_iload_n hx hb (dk DX3_parseClause 20 rfl) rfl (lv_at hl 0 rfl) ?_
  refine lv_if_eq (tgt := 58) hx hb (dk DX3_parseClause 21 rfl) (by decide) (fun hc => ?_) (fun hc => ?_)
  · have h := h.1 hc
    exact hK2 x1 t0 S h _ _ hP hD hS ls (lv_sub hl [1, 2, 0] rfl)
  · have h := h.2 hc
    refine lv_aload_n hx hb (dk DX3_parseClause 22 rfl) rfl (lv_at hl 1 rfl) ?_
    refine gX_43 X hP 13 (by decide) rfl lk19 (dk DX3_parseClause 23 rfl) ?_
    refine lv_iload_n hx hb (dk DX3_parseClause 24 rfl) rfl (lv_at hl 2 rfl) ?_
    refine lv_bipush (v := 32) hx hb (dk DX3_parseClause 25 rfl) (by decide) ?_
    refine lv_isub hx hb (dk DX3_parseClause 26 rfl) ?_
    obtain ⟨hin, h⟩ := h
    refine ldX_45 X hP hin (dk DX3_parseClause 27 rfl) ?_
    refine lv_iconst (v := (-1)) hx hb (dk DX3_parseClause 28 rfl) (by decide) ?_
    refine lv_icmp_eq (tgt := 58) hx hb (dk DX3_parseClause 29 rfl) (by decide) (fun hc => ?_) (fun hc => ?_)
    · have h := h.1 hc
      exact hK2 x1 t0 S h _ _ hP hD hS ls (lv_sub hl [1, 2, 0] rfl)
    · have h := h.2 hc
      refine lv_aload_n hx hb (dk DX3_parseClause 30 rfl) rfl (lv_at hl 1 rfl) ?_
      refine lv_iconst (v := 4) hx hb (dk DX3_parseClause 31 rfl) (by decide) ?_
      refine cXv (As := [.int 4]) (rest := []) X (m_X3_fail_43 (l := l) (dC := dC) (dI := dI) (q := q) (cI := cI) (cT := cT) (en := en) (sz := _) 4 S h) (cwV 1 X.2.2.2.2.1 (gxV 315 316 317 231 313 rfl rfl rfl rfl rfl) rfl rfl rfl q_X3_fail_43 ⟨Nat.le_of_ble_eq_true rfl, Nat.le_of_ble_eq_true rfl⟩) (rX_43 X hP) hP hD hS rfl hl.1 rfl (Nat.le_of_ble_eq_true rfl) (dk DX3_parseClause 32 rfl) (fun S3 H locs h hP hD hS => ?_)
      exact W.vret hx hb hr (fun t ht hW => ⟨⟨_, rfl, h, by rw [ht]; exact hP, va_K.moved hW.alike X.2.2.2.2.2.2.1, hD⟩, hS.F ht⟩) hS.2.2 (dk DX3_parseClause 33 rfl)
set_option maxHeartbeats 4000000 in
set_option maxRecDepth 100000 in
theorem h_X3_parseClause_43_2 {p : Program} {l : Launch} {e : Env} {s : State} {m : MethodId} {below : List Frame} {meth : Method} {c : Code} {dC : Nat → ClassId} {dI : Nat → Nat → Nat} {q : Nat → Nat} {cI cT : ClassId} {en : Nat → Nat} {A : Nat → Prop} {args : Array Value} {Post : XS → Prop} {K : Hd_X3_parseClause_43 → XS → Prop} (X : XX p s m args c cX3_parseClause 4 ww_X3_parseClause_43 RX3 dC dI cI cT en A) (hr : meth.sig.returnType = none) (hlocks : meth.locks = false) (hK0 : ∀ (x1 : Int32) (S : XS), K (.inl x1) S → ∀ (H : Heap) (locs : List Loc), va_P (dC, dI) vwCl (wX q cI cT S) H → va_D A (wX q cI cT S) → va_S A s.heap H locs → ∀ ls : Array Slot, lv_has ls 4 [(0, .ref (q 43)), (1, .int x1)] → W p l e (headSpec ww_X3_parseClause_43 ({ frames := 113, cells := 0, slots := 0, locals := 4440 } : Room)).room s m args below meth c H locs 0 0 (MQ below (va_Qv Post (atX dC dI q cI cT A) A) args s 0 0 A) (F0 m 17 ls [])) (hK1 : ∀ (x1 : Int32) (t0 : Int32) (S : XS), K (.inr (.inl (x1, t0))) S → ∀ (H : Heap) (locs : List Loc), va_P (dC, dI) vwCl (wX q cI cT S) H → va_D A (wX q cI cT S) → va_S A s.heap H locs → ∀ ls : Array Slot, lv_has ls 4 [(0, .ref (q 43)), (1, .int x1)] → W p l e (headSpec ww_X3_parseClause_43 ({ frames := 113, cells := 0, slots := 0, locals := 4440 } : Room)).room s m args below meth c H locs 0 0 (MQ below (va_Qv Post (atX dC dI q cI cT A) A) args s 0 0 A) (F0 m 34 ls [.int t0])) (hK2 : ∀ (x1 : Int32) (x2 : Int32) (S : XS), K (.inr (.inr (.inl (x1, x2)))) S → ∀ (H : Heap) (locs : List Loc), va_P (dC, dI) vwCl (wX q cI cT S) H → va_D A (wX q cI cT S) → va_S A s.heap H locs → ∀ ls : Array Slot, lv_has ls 4 [(0, .ref (q 43)), (1, .int x1), (2, .int x2)] → W p l e (headSpec ww_X3_parseClause_43 ({ frames := 113, cells := 0, slots := 0, locals := 4440 } : Room)).room s m args below meth c H locs 0 0 (MQ below (va_Qv Post (atX dC dI q cI cT A) A) args s 0 0 A) (F0 m 58 ls [])) (hK3 : ∀ (x1 : Int32) (x2 : Int32) (x3 : Int32) (S : XS), K (.inr (.inr (.inr (x1, x2, x3)))) S → ∀ (H : Heap) (locs : List Loc), va_P (dC, dI) vwCl (wX q cI cT S) H → va_D A (wX q cI cT S) → va_S A s.heap H locs → ∀ ls : Array Slot, lv_has ls 4 [(0, .ref (q 43)), (1, .int x1), (2, .int x2), (3, .int x3)] → W p l e (headSpec ww_X3_parseClause_43 ({ frames := 113, cells := 0, slots := 0, locals := 4440 } : Room)).room s m args below meth c H locs 0 0 (MQ below (va_Qv Post (atX dC dI q cI cT A) A) args s 0 0 A) (F0 m 153 ls [])) (x1 : Int32) (x2 : Int32) (S : XS) (h : B_X3_parseClause_43 Post K (.inr (.inr (.inl (x1, x2)))) S) : ∀ (H : Heap) (locs : List Loc), va_P (dC, dI) vwCl (wX q cI cT S) H → va_D A (wX q cI cT S) → va_S A s.heap H locs → ∀ ls : Array Slot, lv_has ls 4 [(0, .ref (q 43)), (1, .int x1), (2, .int x2)] → W p l e (headSpec ww_X3_parseClause_43 ({ frames := 113, cells := 0, slots := 0, locals := 4440 } : Room)).room s m args below meth c H locs 0 0 (MQ below (va_Qv Post (atX dC dI q cI cT A) A) args s 0 0 A) (F0 m 58 ls []) := by
  have hx := X.1
  have hb := X.2.1
  intro H locs hP hD hS ls hl
  have lk60 := X.2.2.2.2.1 (.fieldLink RX3 60 "BreathOnLoan$Parser" "token" "I") (inX 228 rfl)
  have lk19 := X.2.2.2.2.1 (.fieldLink RX3 19 "BreathOnLoan$Parser" "lawFrom" "[I") (inX 171 rfl)
  have lk45 := X.2.2.2.2.1 (.fieldLink RX3 45 "BreathOnLoan$Parser" "clauses" "I") (inX 378 rfl)
  have lk25 := X.2.2.2.2.1 (.fieldLink RX3 25 "BreathOnLoan$Parser" "rows" "[I") (inX 173 rfl)
  have lk84 := X.2.2.2.2.1 (.fieldLink RX3 84 "BreathOnLoan$Parser" "law" "I") (inX 329 rfl)
  have lk48 := X.2.2.2.2.1 (.fieldLink RX3 48 "BreathOnLoan$Parser" "size" "I") (inX 323 rfl)
  have lk22 := X.2.2.2.2.1 (.fieldLink RX3 22 "BreathOnLoan$Parser" "lawTo" "[I") (inX 172 rfl)
  dsimp only [B_X3_parseClause_43] at h
  refine lv_aload_n hx hb (dk DX3_parseClause 34 rfl) rfl (lv_at hl 0 rfl) ?_
  refine gX_43 X hP 10 (by decide) rfl lk45 (dk DX3_parseClause 35 rfl) ?_
  refine lv_bipush (v := 24) hx hb (dk DX3_parseClause 36 rfl) (by decide) ?_
  refine lv_icmp_lt (tgt := 74) hx hb (dk DX3_parseClause 37 rfl) (by decide) (fun hc => ?_) (fun hc => ?_)
  · have h := h.1 hc
    refine lv_iconst (v := 4) hx hb (dk DX3_parseClause 42 rfl) (by decide) ?_
    refine lv_aload_n hx hb (dk DX3_parseClause 43 rfl) rfl (lv_at hl 0 rfl) ?_
    refine gX_43 X hP 10 (by decide) rfl lk45 (dk DX3_parseClause 44 rfl) ?_
    refine lv_imul hx hb (dk DX3_parseClause 45 rfl) ?_
    refine lv_topi (fun v4 ev4 => ?_)
    have h := h v4 ev4
    refine lv_istore_n (lv' := [(3, .int v4), (0, .ref (q 43)), (1, .int x1), (2, .int x2)]) hx hb (dk DX3_parseClause 46 rfl) rfl hl (by decide) rfl (fun ls hl => ?_)
    refine lv_aload_n hx hb (dk DX3_parseClause 47 rfl) rfl (lv_at hl 1 rfl) ?_
    refine lv_dup hx hb (dk DX3_parseClause 48 rfl) rfl ?_
    refine gX_43 X hP 10 (by decide) rfl lk45 (dk DX3_parseClause 49 rfl) ?_
    refine lv_iconst (v := 1) hx hb (dk DX3_parseClause 50 rfl) (by decide) ?_
    refine lv_iadd hx hb (dk DX3_parseClause 51 rfl) ?_
    refine lv_topi (fun v5 ev5 => ?_)
    have h := h v5 ev5
    refine pX_43_10 X hP hD hS lk45 (dk DX3_parseClause 52 rfl) (fun S6 eS6 H locs hP hD hS => ?_)
    have h := h S6 eS6
    refine lv_aload_n hx hb (dk DX3_parseClause 53 rfl) rfl (lv_at hl 1 rfl) ?_
    refine gX_43 X hP 15 (by decide) rfl lk25 (dk DX3_parseClause 54 rfl) ?_
    refine lv_iload_n hx hb (dk DX3_parseClause 55 rfl) rfl (lv_at hl 0 rfl) ?_
    refine lv_iload_n hx hb (dk DX3_parseClause 56 rfl) rfl (lv_at hl 2 rfl) ?_
    obtain ⟨hin, h⟩ := h
    refine stX_47 X hP hD hS hin (dk DX3_parseClause 57 rfl) (fun S7 eS7 H locs hP hD hS => ?_)
    have h := h S7 eS7
    refine lv_aload_n hx hb (dk DX3_parseClause 58 rfl) rfl (lv_at hl 1 rfl) ?_
    refine cXv (As := []) (rest := []) X (m_X3_advance_43 (l := l) (dC := dC) (dI := dI) (q := q) (cI := cI) (cT := cT) (en := en) (sz := _) S7 h) (cwV 0 X.2.2.2.2.1 (gxV 318 319 320 231 312 rfl rfl rfl rfl rfl) rfl rfl rfl q_X3_advance_43 ⟨Nat.le_of_ble_eq_true rfl, Nat.le_of_ble_eq_true rfl⟩) (rX_43 X hP) hP hD hS rfl hl.1 rfl (Nat.le_of_ble_eq_true rfl) (dk DX3_parseClause 59 rfl) (fun S8 H locs h hP hD hS => ?_)
    refine lv_iload_n hx hb (dk DX3_parseClause 60 rfl) rfl (lv_at hl 3 rfl) ?_
    refine lv_if_eq (tgt := 147) hx hb (dk DX3_parseClause 61 rfl) (by decide) (fun hc => ?_) (fun hc => ?_)
    · have h := h.1 hc
      refine lv_aload_n hx hb (dk DX3_parseClause 84 rfl) rfl (lv_at hl 1 rfl) ?_
      refine lv_iload_n hx hb (dk DX3_parseClause 85 rfl) rfl (lv_at hl 2 rfl) ?_
      refine lv_iload_n hx hb (dk DX3_parseClause 86 rfl) rfl (lv_at hl 0 rfl) ?_
      refine cXv (As := [.int x1, .int v4]) (rest := []) X (m_X3_parseDeed_43 (l := l) (dC := dC) (dI := dI) (q := q) (cI := cI) (cT := cT) (en := en) (sz := _) x1 v4 S8 h) (cwV 2 X.2.2.2.2.1 (gxV 379 380 381 231 377 rfl rfl rfl rfl rfl) rfl rfl rfl q_X3_parseDeed_43 ⟨Nat.le_of_ble_eq_true rfl, Nat.le_of_ble_eq_true rfl⟩) (rX_43 X hP) hP hD hS rfl hl.1 rfl (Nat.le_of_ble_eq_true rfl) (dk DX3_parseClause 87 rfl) (fun S9 H locs h hP hD hS => ?_)
      exact hK3 x1 x2 v4 S9 h _ _ hP hD hS ls (lv_sub hl [1, 2, 3, 0] rfl)
    · have h := h.2 hc
      refine lv_aload_n hx hb (dk DX3_parseClause 62 rfl) rfl (lv_at hl 1 rfl) ?_
      refine lv_iload_n hx hb (dk DX3_parseClause 63 rfl) rfl (lv_at hl 2 rfl) ?_
      refine lv_bipush (v := 32) hx hb (dk DX3_parseClause 64 rfl) (by decide) ?_
      refine lv_isub hx hb (dk DX3_parseClause 65 rfl) ?_
      refine lv_topi (fun v10 ev10 => ?_)
      have h := h v10 ev10
      refine pX_43_9 X hP hD hS lk84 (dk DX3_parseClause 66 rfl) (fun S11 eS11 H locs hP hD hS => ?_)
      have h := h S11 eS11
      refine lv_aload_n hx hb (dk DX3_parseClause 67 rfl) rfl (lv_at hl 1 rfl) ?_
      refine gX_43 X hP 13 (by decide) rfl lk19 (dk DX3_parseClause 68 rfl) ?_
      refine lv_aload_n hx hb (dk DX3_parseClause 69 rfl) rfl (lv_at hl 1 rfl) ?_
      refine gX_43 X hP 9 (by decide) rfl lk84 (dk DX3_parseClause 70 rfl) ?_
      refine lv_aload_n hx hb (dk DX3_parseClause 71 rfl) rfl (lv_at hl 1 rfl) ?_
      refine gX_43 X hP 11 (by decide) rfl lk48 (dk DX3_parseClause 72 rfl) ?_
      refine lv_topi (fun v12 ev12 => ?_)
      have h := h v12 ev12
      obtain ⟨hin, h⟩ := h
      refine stX_45 X hP hD hS hin (dk DX3_parseClause 73 rfl) (fun S13 eS13 H locs hP hD hS => ?_)
      have h := h S13 eS13
      refine lv_aload_n hx hb (dk DX3_parseClause 74 rfl) rfl (lv_at hl 1 rfl) ?_
      refine cXv (As := []) (rest := []) X (mG_0 (l := l) (dC := dC) (dI := dI) (q := q) (cI := cI) (cT := cT) (en := en) 100 _ _ _ h) (cwV 0 X.2.2.2.2.1 (gxV 340 341 342 231 372 rfl rfl rfl rfl rfl) rfl rfl rfl qG_0 ⟨Nat.le_of_ble_eq_true rfl, Nat.le_of_ble_eq_true rfl⟩) (rX_43 X hP) hP hD hS rfl hl.1 rfl (Nat.le_of_ble_eq_true rfl) (dk DX3_parseClause 75 rfl) (fun S14 H locs h hP hD hS => ?_)
      refine lv_aload_n hx hb (dk DX3_parseClause 76 rfl) rfl (lv_at hl 1 rfl) ?_
      refine gX_43 X hP 14 (by decide) rfl lk22 (dk DX3_parseClause 77 rfl) ?_
      refine lv_aload_n hx hb (dk DX3_parseClause 78 rfl) rfl (lv_at hl 1 rfl) ?_
      refine gX_43 X hP 9 (by decide) rfl lk84 (dk DX3_parseClause 79 rfl) ?_
      refine lv_aload_n hx hb (dk DX3_parseClause 80 rfl) rfl (lv_at hl 1 rfl) ?_
      refine gX_43 X hP 11 (by decide) rfl lk48 (dk DX3_parseClause 81 rfl) ?_
      refine lv_topi (fun v15 ev15 => ?_)
      have h := h v15 ev15
      obtain ⟨hin, h⟩ := h
      refine stX_46 X hP hD hS hin (dk DX3_parseClause 82 rfl) (fun S16 eS16 H locs hP hD hS => ?_)
      have h := h S16 eS16
      refine lv_goto (tgt := 153) hx hb (dk DX3_parseClause 83 rfl) (by decide) ?_
      exact hK3 x1 x2 v4 S16 h _ _ hP hD hS ls (lv_sub hl [1, 2, 3, 0] rfl)
  · have h := h.2 hc
    refine lv_aload_n hx hb (dk DX3_parseClause 38 rfl) rfl (lv_at hl 0 rfl) ?_
    refine lv_bipush (v := 6) hx hb (dk DX3_parseClause 39 rfl) (by decide) ?_
    refine cXv (As := [.int 6]) (rest := []) X (m_X3_fail_43 (l := l) (dC := dC) (dI := dI) (q := q) (cI := cI) (cT := cT) (en := en) (sz := _) 6 S h) (cwV 1 X.2.2.2.2.1 (gxV 315 316 317 231 313 rfl rfl rfl rfl rfl) rfl rfl rfl q_X3_fail_43 ⟨Nat.le_of_ble_eq_true rfl, Nat.le_of_ble_eq_true rfl⟩) (rX_43 X hP) hP hD hS rfl hl.1 rfl (Nat.le_of_ble_eq_true rfl) (dk DX3_parseClause 40 rfl) (fun S17 H locs h hP hD hS => ?_)
    exact W.vret hx hb hr (fun t ht hW => ⟨⟨_, rfl, h, by rw [ht]; exact hP, va_K.moved hW.alike X.2.2.2.2.2.2.1, hD⟩, hS.F ht⟩) hS.2.2 (dk DX3_parseClause 41 rfl)
set_option maxHeartbeats 4000000 in
set_option maxRecDepth 100000 in
theorem h_X3_parseClause_43_3 {p : Program} {l : Launch} {e : Env} {s : State} {m : MethodId} {below : List Frame} {meth : Method} {c : Code} {dC : Nat → ClassId} {dI : Nat → Nat → Nat} {q : Nat → Nat} {cI cT : ClassId} {en : Nat → Nat} {A : Nat → Prop} {args : Array Value} {Post : XS → Prop} {K : Hd_X3_parseClause_43 → XS → Prop} (X : XX p s m args c cX3_parseClause 4 ww_X3_parseClause_43 RX3 dC dI cI cT en A) (hr : meth.sig.returnType = none) (hlocks : meth.locks = false) (hK0 : ∀ (x1 : Int32) (S : XS), K (.inl x1) S → ∀ (H : Heap) (locs : List Loc), va_P (dC, dI) vwCl (wX q cI cT S) H → va_D A (wX q cI cT S) → va_S A s.heap H locs → ∀ ls : Array Slot, lv_has ls 4 [(0, .ref (q 43)), (1, .int x1)] → W p l e (headSpec ww_X3_parseClause_43 ({ frames := 113, cells := 0, slots := 0, locals := 4440 } : Room)).room s m args below meth c H locs 0 0 (MQ below (va_Qv Post (atX dC dI q cI cT A) A) args s 0 0 A) (F0 m 17 ls [])) (hK1 : ∀ (x1 : Int32) (t0 : Int32) (S : XS), K (.inr (.inl (x1, t0))) S → ∀ (H : Heap) (locs : List Loc), va_P (dC, dI) vwCl (wX q cI cT S) H → va_D A (wX q cI cT S) → va_S A s.heap H locs → ∀ ls : Array Slot, lv_has ls 4 [(0, .ref (q 43)), (1, .int x1)] → W p l e (headSpec ww_X3_parseClause_43 ({ frames := 113, cells := 0, slots := 0, locals := 4440 } : Room)).room s m args below meth c H locs 0 0 (MQ below (va_Qv Post (atX dC dI q cI cT A) A) args s 0 0 A) (F0 m 34 ls [.int t0])) (hK2 : ∀ (x1 : Int32) (x2 : Int32) (S : XS), K (.inr (.inr (.inl (x1, x2)))) S → ∀ (H : Heap) (locs : List Loc), va_P (dC, dI) vwCl (wX q cI cT S) H → va_D A (wX q cI cT S) → va_S A s.heap H locs → ∀ ls : Array Slot, lv_has ls 4 [(0, .ref (q 43)), (1, .int x1), (2, .int x2)] → W p l e (headSpec ww_X3_parseClause_43 ({ frames := 113, cells := 0, slots := 0, locals := 4440 } : Room)).room s m args below meth c H locs 0 0 (MQ below (va_Qv Post (atX dC dI q cI cT A) A) args s 0 0 A) (F0 m 58 ls [])) (hK3 : ∀ (x1 : Int32) (x2 : Int32) (x3 : Int32) (S : XS), K (.inr (.inr (.inr (x1, x2, x3)))) S → ∀ (H : Heap) (locs : List Loc), va_P (dC, dI) vwCl (wX q cI cT S) H → va_D A (wX q cI cT S) → va_S A s.heap H locs → ∀ ls : Array Slot, lv_has ls 4 [(0, .ref (q 43)), (1, .int x1), (2, .int x2), (3, .int x3)] → W p l e (headSpec ww_X3_parseClause_43 ({ frames := 113, cells := 0, slots := 0, locals := 4440 } : Room)).room s m args below meth c H locs 0 0 (MQ below (va_Qv Post (atX dC dI q cI cT A) A) args s 0 0 A) (F0 m 153 ls [])) (x1 : Int32) (x2 : Int32) (x3 : Int32) (S : XS) (h : B_X3_parseClause_43 Post K (.inr (.inr (.inr (x1, x2, x3)))) S) : ∀ (H : Heap) (locs : List Loc), va_P (dC, dI) vwCl (wX q cI cT S) H → va_D A (wX q cI cT S) → va_S A s.heap H locs → ∀ ls : Array Slot, lv_has ls 4 [(0, .ref (q 43)), (1, .int x1), (2, .int x2), (3, .int x3)] → W p l e (headSpec ww_X3_parseClause_43 ({ frames := 113, cells := 0, slots := 0, locals := 4440 } : Room)).room s m args below meth c H locs 0 0 (MQ below (va_Qv Post (atX dC dI q cI cT A) A) args s 0 0 A) (F0 m 153 ls []) := by
  have hx := X.1
  have hb := X.2.1
  intro H locs hP hD hS ls hl
  have lk60 := X.2.2.2.2.1 (.fieldLink RX3 60 "BreathOnLoan$Parser" "token" "I") (inX 228 rfl)
  have lk19 := X.2.2.2.2.1 (.fieldLink RX3 19 "BreathOnLoan$Parser" "lawFrom" "[I") (inX 171 rfl)
  have lk45 := X.2.2.2.2.1 (.fieldLink RX3 45 "BreathOnLoan$Parser" "clauses" "I") (inX 378 rfl)
  have lk25 := X.2.2.2.2.1 (.fieldLink RX3 25 "BreathOnLoan$Parser" "rows" "[I") (inX 173 rfl)
  have lk84 := X.2.2.2.2.1 (.fieldLink RX3 84 "BreathOnLoan$Parser" "law" "I") (inX 329 rfl)
  have lk48 := X.2.2.2.2.1 (.fieldLink RX3 48 "BreathOnLoan$Parser" "size" "I") (inX 323 rfl)
  have lk22 := X.2.2.2.2.1 (.fieldLink RX3 22 "BreathOnLoan$Parser" "lawTo" "[I") (inX 172 rfl)
  dsimp only [B_X3_parseClause_43] at h
  refine lv_aload_n hx hb (dk DX3_parseClause 88 rfl) rfl (lv_at hl 0 rfl) ?_
  refine lv_bipush (v := 10) hx hb (dk DX3_parseClause 89 rfl) (by decide) ?_
  refine cXv (As := [.int 10]) (rest := []) X (m_X3_expect_43 (l := l) (dC := dC) (dI := dI) (q := q) (cI := cI) (cT := cT) (en := en) (sz := _) 10 S h) (cwV 1 X.2.2.2.2.1 (gxV 348 349 350 231 325 rfl rfl rfl rfl rfl) rfl rfl rfl q_X3_expect_43 ⟨Nat.le_of_ble_eq_true rfl, Nat.le_of_ble_eq_true rfl⟩) (rX_43 X hP) hP hD hS rfl hl.1 rfl (Nat.le_of_ble_eq_true rfl) (dk DX3_parseClause 90 rfl) (fun S18 H locs h hP hD hS => ?_)
  exact W.vret hx hb hr (fun t ht hW => ⟨⟨_, rfl, h, by rw [ht]; exact hP, va_K.moved hW.alike X.2.2.2.2.2.2.1, hD⟩, hS.F ht⟩) hS.2.2 (dk DX3_parseClause 91 rfl)
set_option maxHeartbeats 4000000 in
set_option maxRecDepth 100000 in
theorem m_X3_parseClause_43 {l : Launch} {dC : Nat → ClassId} {dI : Nat → Nat → Nat} {q : Nat → Nat} {cI cT : ClassId} {en : Nat → Nat} {sz : Nat} {Post : XS → Prop} (S : XS) (h : VC_X3_parseClause_43 Post S) : Met l yX3_parseClause ww_X3_parseClause_43 ({ frames := 113, cells := 0, slots := 0, locals := 4440 } : Room) (va_Pc [.ref (q 43)] (preX dC dI q cI cT en S sz)) (va_Qv Post (atX dC dI q cI cT (va_A (wX q cI cT S) sz)) (va_A (wX q cI cT S) sz)) 0 0 (va_A (wX q cI cT S) sz) := by
  refine oX (cc := cX3_parseClause) (maxL := 4) (ret := none) (Qc := fun A => va_Qv Post (atX dC dI q cI cT A) A) (own := RX3) (by decide) rfl (fun w h => List.mem_cons_of_mem _ (List.mem_append_right _ h)) rfl (Nat.le_of_ble_eq_true rfl) (fun p e s m below meth c A ls X hr hlocks hP hD hS hl => ?_)
  have hx := X.1
  have hb := X.2.1
  have hl : lv_has ls 4 [(0, .ref (q 43))] := hl
  have lk60 := X.2.2.2.2.1 (.fieldLink RX3 60 "BreathOnLoan$Parser" "token" "I") (inX 228 rfl)
  have lk19 := X.2.2.2.2.1 (.fieldLink RX3 19 "BreathOnLoan$Parser" "lawFrom" "[I") (inX 171 rfl)
  have lk45 := X.2.2.2.2.1 (.fieldLink RX3 45 "BreathOnLoan$Parser" "clauses" "I") (inX 378 rfl)
  have lk25 := X.2.2.2.2.1 (.fieldLink RX3 25 "BreathOnLoan$Parser" "rows" "[I") (inX 173 rfl)
  have lk84 := X.2.2.2.2.1 (.fieldLink RX3 84 "BreathOnLoan$Parser" "law" "I") (inX 329 rfl)
  have lk48 := X.2.2.2.2.1 (.fieldLink RX3 48 "BreathOnLoan$Parser" "size" "I") (inX 323 rfl)
  have lk22 := X.2.2.2.2.1 (.fieldLink RX3 22 "BreathOnLoan$Parser" "lawTo" "[I") (inX 172 rfl)
  generalize hargs : ([.ref (q 43)] : List Value).toArray = args at X ⊢
  have h := h (fun hd S => match hd with | (.inl x1) => ∀ (H : Heap) (locs : List Loc), va_P (dC, dI) vwCl (wX q cI cT S) H → va_D A (wX q cI cT S) → va_S A s.heap H locs → ∀ ls : Array Slot, lv_has ls 4 [(0, .ref (q 43)), (1, .int x1)] → W p l e (headSpec ww_X3_parseClause_43 ({ frames := 113, cells := 0, slots := 0, locals := 4440 } : Room)).room s m args below meth c H locs 0 0 (MQ below (va_Qv Post (atX dC dI q cI cT A) A) args s 0 0 A) (F0 m 17 ls []) | (.inr (.inl (x1, t0))) => ∀ (H : Heap) (locs : List Loc), va_P (dC, dI) vwCl (wX q cI cT S) H → va_D A (wX q cI cT S) → va_S A s.heap H locs → ∀ ls : Array Slot, lv_has ls 4 [(0, .ref (q 43)), (1, .int x1)] → W p l e (headSpec ww_X3_parseClause_43 ({ frames := 113, cells := 0, slots := 0, locals := 4440 } : Room)).room s m args below meth c H locs 0 0 (MQ below (va_Qv Post (atX dC dI q cI cT A) A) args s 0 0 A) (F0 m 34 ls [.int t0]) | (.inr (.inr (.inl (x1, x2)))) => ∀ (H : Heap) (locs : List Loc), va_P (dC, dI) vwCl (wX q cI cT S) H → va_D A (wX q cI cT S) → va_S A s.heap H locs → ∀ ls : Array Slot, lv_has ls 4 [(0, .ref (q 43)), (1, .int x1), (2, .int x2)] → W p l e (headSpec ww_X3_parseClause_43 ({ frames := 113, cells := 0, slots := 0, locals := 4440 } : Room)).room s m args below meth c H locs 0 0 (MQ below (va_Qv Post (atX dC dI q cI cT A) A) args s 0 0 A) (F0 m 58 ls []) | (.inr (.inr (.inr (x1, x2, x3)))) => ∀ (H : Heap) (locs : List Loc), va_P (dC, dI) vwCl (wX q cI cT S) H → va_D A (wX q cI cT S) → va_S A s.heap H locs → ∀ ls : Array Slot, lv_has ls 4 [(0, .ref (q 43)), (1, .int x1), (2, .int x2), (3, .int x3)] → W p l e (headSpec ww_X3_parseClause_43 ({ frames := 113, cells := 0, slots := 0, locals := 4440 } : Room)).room s m args below meth c H locs 0 0 (MQ below (va_Qv Post (atX dC dI q cI cT A) A) args s 0 0 A) (F0 m 153 ls [])) ?_
  · skip
    refine lv_aload_n hx hb (dk DX3_parseClause 0 rfl) rfl (lv_at hl 0 rfl) ?_
    refine gX_43 X hP 5 (by decide) rfl lk60 (dk DX3_parseClause 1 rfl) ?_
    refine lv_topi (fun v1 ev1 => ?_)
    have h := h v1 ev1
    refine lv_istore_n (lv' := [(1, .int v1), (0, .ref (q 43))]) hx hb (dk DX3_parseClause 2 rfl) rfl hl (by decide) rfl (fun ls hl => ?_)
    refine lv_iload_n hx hb (dk DX3_parseClause 3 rfl) rfl (lv_at hl 0 rfl) ?_
    refine lv_bipush (v := 32) hx hb (dk DX3_parseClause 4 rfl) (by decide) ?_
    refine lv_icmp_lt (tgt := 17) hx hb (dk DX3_parseClause 5 rfl) (by decide) (fun hc => ?_) (fun hc => ?_)
    · have h := h.1 hc
      exact h _ _ hP hD hS ls (lv_sub hl [1, 0] rfl)
    · have h := h.2 hc
      refine lv_iload_n hx hb (dk DX3_parseClause 6 rfl) rfl (lv_at hl 0 rfl) ?_
      refine lv_bipush (v := 38) hx hb (dk DX3_parseClause 7 rfl) (by decide) ?_
      refine lv_icmp_le (tgt := 23) hx hb (dk DX3_parseClause 8 rfl) (by decide) (fun hc => ?_) (fun hc => ?_)
      · have h := h.1 hc
        refine lv_iload_n hx hb (dk DX3_parseClause 13 rfl) rfl (lv_at hl 0 rfl) ?_
        refine lv_bipush (v := 36) hx hb (dk DX3_parseClause 14 rfl) (by decide) ?_
        refine lv_icmp_ge (tgt := 33) hx hb (dk DX3_parseClause 15 rfl) (by decide) (fun hc => ?_) (fun hc => ?_)
        · have h := h.1 hc
          refine lv_iconst (v := 0) hx hb (dk DX3_parseClause 18 rfl) (by decide) ?_
          exact h _ _ hP hD hS ls (lv_sub hl [1, 0] rfl)
        · have h := h.2 hc
          refine lv_iconst (v := 1) hx hb (dk DX3_parseClause 16 rfl) (by decide) ?_
          refine lv_goto (tgt := 34) hx hb (dk DX3_parseClause 17 rfl) (by decide) ?_
          exact h _ _ hP hD hS ls (lv_sub hl [1, 0] rfl)
      · have h := h.2 hc
        exact h _ _ hP hD hS ls (lv_sub hl [1, 0] rfl)
  · rintro (x1 | ⟨x1, t0⟩ | ⟨x1, x2⟩ | ⟨x1, x2, x3⟩) S hB
    · exact h_X3_parseClause_43_0 X hr hlocks (hK0 := fun _ _ h => h) (hK1 := fun _ _ _ h => h) (hK2 := fun _ _ _ h => h) (hK3 := fun _ _ _ _ h => h) x1 S hB
    · exact h_X3_parseClause_43_1 X hr hlocks (hK0 := fun _ _ h => h) (hK1 := fun _ _ _ h => h) (hK2 := fun _ _ _ h => h) (hK3 := fun _ _ _ _ h => h) x1 t0 S hB
    · exact h_X3_parseClause_43_2 X hr hlocks (hK0 := fun _ _ h => h) (hK1 := fun _ _ _ h => h) (hK2 := fun _ _ _ h => h) (hK3 := fun _ _ _ _ h => h) x1 x2 S hB
    · exact h_X3_parseClause_43_3 X hr hlocks (hK0 := fun _ _ h => h) (hK1 := fun _ _ _ h => h) (hK2 := fun _ _ _ h => h) (hK3 := fun _ _ _ _ h => h) x1 x2 x3 S hB

def ww_X9_clauses_x : List Cond := .code yX9_clauses cX9_clauses 1 (some .int) :: (WdX ++ WsX)
theorem q_X9_clauses_x : yX9_clauses.cls = RX9 ∧ yX9_clauses.cls ≠ "java/lang/invoke/MethodHandle" ∧ yX9_clauses.cls ≠ "java/lang/invoke/VarHandle" ∧ (parseMethodDescriptor yX9_clauses.desc).map (fun d => d.parameters.length) = some 0 := by decide +kernel
def VC_X9_clauses_x (Post : Int32 → XS → Prop) (o : Nat) (S : XS) : Prop := ∃ t1 : TR, tx S o t1 ∧ ¬ (4 : Int32) = 0 ∧ Post ((Int32.ofNat t1.2.2.2.2.1) / 4) S
set_option maxHeartbeats 4000000 in
set_option maxRecDepth 100000 in
theorem m_X9_clauses_x {l : Launch} {dC : Nat → ClassId} {dI : Nat → Nat → Nat} {q : Nat → Nat} {cI cT : ClassId} {en : Nat → Nat} {sz : Nat} {Post : Int32 → XS → Prop} (o : Nat) (S : XS) (h : VC_X9_clauses_x Post o S) : Met l yX9_clauses ww_X9_clauses_x ({ frames := 0, cells := 0, slots := 0, locals := 0 } : Room) (va_Pc [.ref o] (preX dC dI q cI cT en S sz)) (va_Qi Post (atX dC dI q cI cT (va_A (wX q cI cT S) sz)) (va_A (wX q cI cT S) sz)) 0 0 (va_A (wX q cI cT S) sz) := by
  refine oX (cc := cX9_clauses) (maxL := 1) (ret := (some .int)) (Qc := fun A => va_Qi Post (atX dC dI q cI cT A) A) (own := RX9) (by decide) rfl (fun w h => List.mem_cons_of_mem _ (List.mem_append_right _ h)) rfl (Nat.le_of_ble_eq_true rfl) (fun p e s m below meth c A ls X hr hlocks hP hD hS hl => ?_)
  have hx := X.1
  have hb := X.2.1
  have hl : lv_has ls 1 [(0, .ref o)] := hl
  have lk21 := X.2.2.2.2.1 (.fieldLink RX9 21 "BreathOnLoan$Text" "rows" "[I") (inX 394 rfl)
  dsimp only [VC_X9_clauses_x] at h
  refine lv_aload_n hx hb (dk DX9_clauses 0 rfl) rfl (lv_at hl 0 rfl) ?_
  obtain ⟨t1, ht1, h⟩ := h
  refine gT_3 X hP ht1 lk21 (dk DX9_clauses 1 rfl) ?_
  refine alT_3 X hP ht1 (dk DX9_clauses 2 rfl) ?_
  refine lv_iconst (v := 4) hx hb (dk DX9_clauses 3 rfl) (by decide) ?_
  obtain ⟨hz, h⟩ := h
  refine lv_idiv hx hb (dk DX9_clauses 4 rfl) hz ?_
  exact W.iret (v := (Int32.ofNat t1.2.2.2.2.1) / 4) hx hb hr (fun t ht hW => ⟨⟨_, _, rfl, h, by rw [ht]; exact hP, va_K.moved hW.alike X.2.2.2.2.2.2.1, hD⟩, hS.F ht⟩) hS.2.2 (dk DX9_clauses 5 rfl)

def ww_X9_orderOf_x : List Cond := .code yX9_orderOf cX9_orderOf 4 (some .int) :: (WdX ++ WsX)
theorem q_X9_orderOf_x : yX9_orderOf.cls = RX9 ∧ yX9_orderOf.cls ≠ "java/lang/invoke/MethodHandle" ∧ yX9_orderOf.cls ≠ "java/lang/invoke/VarHandle" ∧ (parseMethodDescriptor yX9_orderOf.desc).map (fun d => d.parameters.length) = some 2 := by decide +kernel
def VC_X9_orderOf_x (Post : Int32 → XS → Prop) (o : Nat) (a0 : Int32) (a1 : Int32) (S : XS) : Prop := ∀ v1 : Int32, v1 = (4 * a0) + a1 → ((v1 < 0 → Post (-1) S) ∧ (¬ v1 < 0 → ∃ t2 : TR, tx S o t2 ∧ (((Int32.ofNat t2.2.2.2.2.1) ≤ v1 → Post (-1) S) ∧ (¬ (Int32.ofNat t2.2.2.2.2.1) ≤ v1 → ∃ t3 : TR, tx S o t3 ∧ vp_in v1 t3.2.2.2.2.1 ∧ Post (t3.2.2.2.2.2 v1.toNatClampNeg) S))))
set_option maxHeartbeats 4000000 in
set_option maxRecDepth 100000 in
theorem m_X9_orderOf_x {l : Launch} {dC : Nat → ClassId} {dI : Nat → Nat → Nat} {q : Nat → Nat} {cI cT : ClassId} {en : Nat → Nat} {sz : Nat} {Post : Int32 → XS → Prop} (o : Nat) (a0 : Int32) (a1 : Int32) (S : XS) (h : VC_X9_orderOf_x Post o a0 a1 S) : Met l yX9_orderOf ww_X9_orderOf_x ({ frames := 0, cells := 0, slots := 0, locals := 0 } : Room) (va_Pc [.ref o, .int a0, .int a1] (preX dC dI q cI cT en S sz)) (va_Qi Post (atX dC dI q cI cT (va_A (wX q cI cT S) sz)) (va_A (wX q cI cT S) sz)) 0 0 (va_A (wX q cI cT S) sz) := by
  refine oX (cc := cX9_orderOf) (maxL := 4) (ret := (some .int)) (Qc := fun A => va_Qi Post (atX dC dI q cI cT A) A) (own := RX9) (by decide) rfl (fun w h => List.mem_cons_of_mem _ (List.mem_append_right _ h)) rfl (Nat.le_of_ble_eq_true rfl) (fun p e s m below meth c A ls X hr hlocks hP hD hS hl => ?_)
  have hx := X.1
  have hb := X.2.1
  have hl : lv_has ls 4 [(0, .ref o), (1, .int a0), (2, .int a1)] := hl
  have lk21 := X.2.2.2.2.1 (.fieldLink RX9 21 "BreathOnLoan$Text" "rows" "[I") (inX 394 rfl)
  dsimp only [VC_X9_orderOf_x] at h
  refine lv_iconst (v := 4) hx hb (dk DX9_orderOf 0 rfl) (by decide) ?_
  refine lv_iload_n hx hb (dk DX9_orderOf 1 rfl) rfl (lv_at hl 1 rfl) ?_
  refine lv_imul hx hb (dk DX9_orderOf 2 rfl) ?_
  refine lv_iload_n hx hb (dk DX9_orderOf 3 rfl) rfl (lv_at hl 2 rfl) ?_
  refine lv_iadd hx hb (dk DX9_orderOf 4 rfl) ?_
  refine lv_topi (fun v1 ev1 => ?_)
  have h := h v1 ev1
  refine lv_istore_n (lv' := [(3, .int v1), (0, .ref o), (1, .int a0), (2, .int a1)]) hx hb (dk DX9_orderOf 5 rfl) rfl hl (by decide) rfl (fun ls hl => ?_)
  refine lv_iload_n hx hb (dk DX9_orderOf 6 rfl) rfl (lv_at hl 0 rfl) ?_
  refine lv_if_lt (tgt := 28) hx hb (dk DX9_orderOf 7 rfl) (by decide) (fun hc => ?_) (fun hc => ?_)
  · have h := h.1 hc
    refine lv_iconst (v := (-1)) hx hb (dk DX9_orderOf 18 rfl) (by decide) ?_
    exact W.iret (v := (-1)) hx hb hr (fun t ht hW => ⟨⟨_, _, rfl, h, by rw [ht]; exact hP, va_K.moved hW.alike X.2.2.2.2.2.2.1, hD⟩, hS.F ht⟩) hS.2.2 (dk DX9_orderOf 19 rfl)
  · have h := h.2 hc
    refine lv_iload_n hx hb (dk DX9_orderOf 8 rfl) rfl (lv_at hl 0 rfl) ?_
    refine lv_aload_n hx hb (dk DX9_orderOf 9 rfl) rfl (lv_at hl 1 rfl) ?_
    obtain ⟨t2, ht2, h⟩ := h
    refine gT_3 X hP ht2 lk21 (dk DX9_orderOf 10 rfl) ?_
    refine alT_3 X hP ht2 (dk DX9_orderOf 11 rfl) ?_
    refine lv_icmp_ge (tgt := 28) hx hb (dk DX9_orderOf 12 rfl) (by decide) (fun hc => ?_) (fun hc => ?_)
    · have h := h.1 hc
      refine lv_iconst (v := (-1)) hx hb (dk DX9_orderOf 18 rfl) (by decide) ?_
      exact W.iret (v := (-1)) hx hb hr (fun t ht hW => ⟨⟨_, _, rfl, h, by rw [ht]; exact hP, va_K.moved hW.alike X.2.2.2.2.2.2.1, hD⟩, hS.F ht⟩) hS.2.2 (dk DX9_orderOf 19 rfl)
    · have h := h.2 hc
      refine lv_aload_n hx hb (dk DX9_orderOf 13 rfl) rfl (lv_at hl 1 rfl) ?_
      obtain ⟨t3, ht3, h⟩ := h
      refine gT_3 X hP ht3 lk21 (dk DX9_orderOf 14 rfl) ?_
      refine lv_iload_n hx hb (dk DX9_orderOf 15 rfl) rfl (lv_at hl 0 rfl) ?_
      obtain ⟨hin, h⟩ := h
      refine ldT_3 X hP ht3 hin (dk DX9_orderOf 16 rfl) ?_
      refine lv_goto (tgt := 29) hx hb (dk DX9_orderOf 17 rfl) (by decide) ?_
      exact W.iret (v := t3.2.2.2.2.2 v1.toNatClampNeg) hx hb hr (fun t ht hW => ⟨⟨_, _, rfl, h, by rw [ht]; exact hP, va_K.moved hW.alike X.2.2.2.2.2.2.1, hD⟩, hS.F ht⟩) hS.2.2 (dk DX9_orderOf 19 rfl)

def ww_X9_hasLaw_x : List Cond := .code yX9_hasLaw cX9_hasLaw 2 (some .boolean) :: (WdX ++ WsX)
theorem q_X9_hasLaw_x : yX9_hasLaw.cls = RX9 ∧ yX9_hasLaw.cls ≠ "java/lang/invoke/MethodHandle" ∧ yX9_hasLaw.cls ≠ "java/lang/invoke/VarHandle" ∧ (parseMethodDescriptor yX9_hasLaw.desc).map (fun d => d.parameters.length) = some 1 := by decide +kernel
def VC_X9_hasLaw_x (Post : Int32 → XS → Prop) (o : Nat) (a0 : Int32) (S : XS) : Prop := ((a0 < 0 → Post 0 S) ∧ (¬ a0 < 0 → ∃ t1 : TR, tx S o t1 ∧ ((4 ≤ a0 → Post 0 S) ∧ (¬ 4 ≤ a0 → ∃ t2 : TR, tx S o t2 ∧ vp_in a0 4 ∧ (((t2.2.2.1 a0.toNatClampNeg) < 0 → Post 0 S) ∧ (¬ (t2.2.2.1 a0.toNatClampNeg) < 0 → Post 1 S))))))
set_option maxHeartbeats 4000000 in
set_option maxRecDepth 100000 in
theorem m_X9_hasLaw_x {l : Launch} {dC : Nat → ClassId} {dI : Nat → Nat → Nat} {q : Nat → Nat} {cI cT : ClassId} {en : Nat → Nat} {sz : Nat} {Post : Int32 → XS → Prop} (o : Nat) (a0 : Int32) (S : XS) (h : VC_X9_hasLaw_x Post o a0 S) : Met l yX9_hasLaw ww_X9_hasLaw_x ({ frames := 0, cells := 0, slots := 0, locals := 0 } : Room) (va_Pc [.ref o, .int a0] (preX dC dI q cI cT en S sz)) (va_Qi Post (atX dC dI q cI cT (va_A (wX q cI cT S) sz)) (va_A (wX q cI cT S) sz)) 0 0 (va_A (wX q cI cT S) sz) := by
  refine oX (cc := cX9_hasLaw) (maxL := 2) (ret := (some .boolean)) (Qc := fun A => va_Qi Post (atX dC dI q cI cT A) A) (own := RX9) (by decide) rfl (fun w h => List.mem_cons_of_mem _ (List.mem_append_right _ h)) rfl (Nat.le_of_ble_eq_true rfl) (fun p e s m below meth c A ls X hr hlocks hP hD hS hl => ?_)
  have hx := X.1
  have hb := X.2.1
  have hl : lv_has ls 2 [(0, .ref o), (1, .int a0)] := hl
  have lk15 := X.2.2.2.2.1 (.fieldLink RX9 15 "BreathOnLoan$Text" "lawFrom" "[I") (inX 61 rfl)
  dsimp only [VC_X9_hasLaw_x] at h
  refine lv_iload_n hx hb (dk DX9_hasLaw 0 rfl) rfl (lv_at hl 1 rfl) ?_
  refine lv_if_lt (tgt := 26) hx hb (dk DX9_hasLaw 1 rfl) (by decide) (fun hc => ?_) (fun hc => ?_)
  · have h := h.1 hc
    refine lv_iconst (v := 0) hx hb (dk DX9_hasLaw 14 rfl) (by decide) ?_
    exact W.zret (v := 0) hx hb hr (by decide) (fun t ht hW => ⟨⟨_, _, rfl, h, by rw [ht]; exact hP, va_K.moved hW.alike X.2.2.2.2.2.2.1, hD⟩, hS.F ht⟩) hS.2.2 (dk DX9_hasLaw 15 rfl)
  · have h := h.2 hc
    refine lv_iload_n hx hb (dk DX9_hasLaw 2 rfl) rfl (lv_at hl 1 rfl) ?_
    refine lv_aload_n hx hb (dk DX9_hasLaw 3 rfl) rfl (lv_at hl 0 rfl) ?_
    obtain ⟨t1, ht1, h⟩ := h
    refine gT_1 X hP ht1 lk15 (dk DX9_hasLaw 4 rfl) ?_
    refine alT_1 X hP ht1 (dk DX9_hasLaw 5 rfl) ?_
    refine lv_icmp_ge (tgt := 26) hx hb (dk DX9_hasLaw 6 rfl) (by decide) (fun hc => ?_) (fun hc => ?_)
    · have h := h.1 hc
      refine lv_iconst (v := 0) hx hb (dk DX9_hasLaw 14 rfl) (by decide) ?_
      exact W.zret (v := 0) hx hb hr (by decide) (fun t ht hW => ⟨⟨_, _, rfl, h, by rw [ht]; exact hP, va_K.moved hW.alike X.2.2.2.2.2.2.1, hD⟩, hS.F ht⟩) hS.2.2 (dk DX9_hasLaw 15 rfl)
    · have h := h.2 hc
      refine lv_aload_n hx hb (dk DX9_hasLaw 7 rfl) rfl (lv_at hl 0 rfl) ?_
      obtain ⟨t2, ht2, h⟩ := h
      refine gT_1 X hP ht2 lk15 (dk DX9_hasLaw 8 rfl) ?_
      refine lv_iload_n hx hb (dk DX9_hasLaw 9 rfl) rfl (lv_at hl 1 rfl) ?_
      obtain ⟨hin, h⟩ := h
      refine ldT_1 X hP ht2 hin (dk DX9_hasLaw 10 rfl) ?_
      refine lv_if_lt (tgt := 26) hx hb (dk DX9_hasLaw 11 rfl) (by decide) (fun hc => ?_) (fun hc => ?_)
      · have h := h.1 hc
        refine lv_iconst (v := 0) hx hb (dk DX9_hasLaw 14 rfl) (by decide) ?_
        exact W.zret (v := 0) hx hb hr (by decide) (fun t ht hW => ⟨⟨_, _, rfl, h, by rw [ht]; exact hP, va_K.moved hW.alike X.2.2.2.2.2.2.1, hD⟩, hS.F ht⟩) hS.2.2 (dk DX9_hasLaw 15 rfl)
      · have h := h.2 hc
        refine lv_iconst (v := 1) hx hb (dk DX9_hasLaw 12 rfl) (by decide) ?_
        refine lv_goto (tgt := 27) hx hb (dk DX9_hasLaw 13 rfl) (by decide) ?_
        exact W.zret (v := 1) hx hb hr (by decide) (fun t ht hW => ⟨⟨_, _, rfl, h, by rw [ht]; exact hP, va_K.moved hW.alike X.2.2.2.2.2.2.1, hD⟩, hS.F ht⟩) hS.2.2 (dk DX9_hasLaw 15 rfl)

def ww_X9_firstOf_x : List Cond := .code yX9_firstOf cX9_firstOf 2 (some .int) :: (WdX ++ WsX)
theorem q_X9_firstOf_x : yX9_firstOf.cls = RX9 ∧ yX9_firstOf.cls ≠ "java/lang/invoke/MethodHandle" ∧ yX9_firstOf.cls ≠ "java/lang/invoke/VarHandle" ∧ (parseMethodDescriptor yX9_firstOf.desc).map (fun d => d.parameters.length) = some 1 := by decide +kernel
def VC_X9_firstOf_x (Post : Int32 → XS → Prop) (o : Nat) (a0 : Int32) (S : XS) : Prop := ∃ t1 : TR, tx S o t1 ∧ VC_X9_hasLaw_x (fun r3 S2 => ((r3 = 0 → Post 0 S2) ∧ (¬ r3 = 0 → ∃ t4 : TR, tx S2 o t4 ∧ vp_in a0 4 ∧ Post (t4.2.2.1 a0.toNatClampNeg) S2))) o a0 S
set_option maxHeartbeats 4000000 in
set_option maxRecDepth 100000 in
theorem m_X9_firstOf_x {l : Launch} {dC : Nat → ClassId} {dI : Nat → Nat → Nat} {q : Nat → Nat} {cI cT : ClassId} {en : Nat → Nat} {sz : Nat} {Post : Int32 → XS → Prop} (o : Nat) (a0 : Int32) (S : XS) (h : VC_X9_firstOf_x Post o a0 S) : Met l yX9_firstOf ww_X9_firstOf_x ({ frames := 1, cells := 0, slots := 0, locals := 21 } : Room) (va_Pc [.ref o, .int a0] (preX dC dI q cI cT en S sz)) (va_Qi Post (atX dC dI q cI cT (va_A (wX q cI cT S) sz)) (va_A (wX q cI cT S) sz)) 0 0 (va_A (wX q cI cT S) sz) := by
  refine oX (cc := cX9_firstOf) (maxL := 2) (ret := (some .int)) (Qc := fun A => va_Qi Post (atX dC dI q cI cT A) A) (own := RX9) (by decide) rfl (fun w h => List.mem_cons_of_mem _ (List.mem_append_right _ h)) rfl (Nat.le_of_ble_eq_true rfl) (fun p e s m below meth c A ls X hr hlocks hP hD hS hl => ?_)
  have hx := X.1
  have hb := X.2.1
  have hl : lv_has ls 2 [(0, .ref o), (1, .int a0)] := hl
  have lk15 := X.2.2.2.2.1 (.fieldLink RX9 15 "BreathOnLoan$Text" "lawFrom" "[I") (inX 61 rfl)
  dsimp only [VC_X9_firstOf_x] at h
  refine lv_aload_n hx hb (dk DX9_firstOf 0 rfl) rfl (lv_at hl 0 rfl) ?_
  refine lv_iload_n hx hb (dk DX9_firstOf 1 rfl) rfl (lv_at hl 1 rfl) ?_
  obtain ⟨t1, ht1, h⟩ := h
  refine cXi (As := [.int a0]) (rest := []) X (m_X9_hasLaw_x (l := l) (dC := dC) (dI := dI) (q := q) (cI := cI) (cT := cT) (en := en) (sz := _) o a0 S h) (cwV 1 X.2.2.2.2.1 (gxV 76 69 70 71 60 rfl rfl rfl rfl rfl) rfl rfl rfl q_X9_hasLaw_x ⟨Nat.le_of_ble_eq_true rfl, Nat.le_of_ble_eq_true rfl⟩) (rT X hP ht1) hP hD hS rfl hl.1 rfl (Nat.le_of_ble_eq_true rfl) (dk DX9_firstOf 2 rfl) (fun r3 S2 H locs h hP hD hS => ?_)
  refine lv_if_eq (tgt := 17) hx hb (dk DX9_firstOf 3 rfl) (by decide) (fun hc => ?_) (fun hc => ?_)
  · have h := h.1 hc
    refine lv_iconst (v := 0) hx hb (dk DX9_firstOf 9 rfl) (by decide) ?_
    exact W.iret (v := 0) hx hb hr (fun t ht hW => ⟨⟨_, _, rfl, h, by rw [ht]; exact hP, va_K.moved hW.alike X.2.2.2.2.2.2.1, hD⟩, hS.F ht⟩) hS.2.2 (dk DX9_firstOf 10 rfl)
  · have h := h.2 hc
    refine lv_aload_n hx hb (dk DX9_firstOf 4 rfl) rfl (lv_at hl 0 rfl) ?_
    obtain ⟨t4, ht4, h⟩ := h
    refine gT_1 X hP ht4 lk15 (dk DX9_firstOf 5 rfl) ?_
    refine lv_iload_n hx hb (dk DX9_firstOf 6 rfl) rfl (lv_at hl 1 rfl) ?_
    obtain ⟨hin, h⟩ := h
    refine ldT_1 X hP ht4 hin (dk DX9_firstOf 7 rfl) ?_
    refine lv_goto (tgt := 18) hx hb (dk DX9_firstOf 8 rfl) (by decide) ?_
    exact W.iret (v := t4.2.2.1 a0.toNatClampNeg) hx hb hr (fun t ht hW => ⟨⟨_, _, rfl, h, by rw [ht]; exact hP, va_K.moved hW.alike X.2.2.2.2.2.2.1, hD⟩, hS.F ht⟩) hS.2.2 (dk DX9_firstOf 10 rfl)

def ww_X9_behind_x : List Cond := .code yX9_behind cX9_behind 2 (some .int) :: (WdX ++ WsX)
theorem q_X9_behind_x : yX9_behind.cls = RX9 ∧ yX9_behind.cls ≠ "java/lang/invoke/MethodHandle" ∧ yX9_behind.cls ≠ "java/lang/invoke/VarHandle" ∧ (parseMethodDescriptor yX9_behind.desc).map (fun d => d.parameters.length) = some 1 := by decide +kernel
def VC_X9_behind_x (Post : Int32 → XS → Prop) (o : Nat) (a0 : Int32) (S : XS) : Prop := ∃ t1 : TR, tx S o t1 ∧ VC_X9_hasLaw_x (fun r3 S2 => ((r3 = 0 → Post 0 S2) ∧ (¬ r3 = 0 → ∃ t4 : TR, tx S2 o t4 ∧ ((4 ≤ a0 → Post 0 S2) ∧ (¬ 4 ≤ a0 → ∃ t5 : TR, tx S2 o t5 ∧ vp_in a0 4 ∧ ∃ t6 : TR, tx S2 o t6 ∧ Post (if (Int32.ofNat t6.2.1.1) < (t5.2.2.2.1 a0.toNatClampNeg) then (Int32.ofNat t6.2.1.1) else (t5.2.2.2.1 a0.toNatClampNeg)) S2))))) o a0 S
set_option maxHeartbeats 4000000 in
set_option maxRecDepth 100000 in
theorem m_X9_behind_x {l : Launch} {dC : Nat → ClassId} {dI : Nat → Nat → Nat} {q : Nat → Nat} {cI cT : ClassId} {en : Nat → Nat} {sz : Nat} {Post : Int32 → XS → Prop} (o : Nat) (a0 : Int32) (S : XS) (h : VC_X9_behind_x Post o a0 S) : Met l yX9_behind ww_X9_behind_x ({ frames := 1, cells := 0, slots := 0, locals := 40 } : Room) (va_Pc [.ref o, .int a0] (preX dC dI q cI cT en S sz)) (va_Qi Post (atX dC dI q cI cT (va_A (wX q cI cT S) sz)) (va_A (wX q cI cT S) sz)) 0 0 (va_A (wX q cI cT S) sz) := by
  refine oX (cc := cX9_behind) (maxL := 2) (ret := (some .int)) (Qc := fun A => va_Qi Post (atX dC dI q cI cT A) A) (own := RX9) (by decide) rfl (fun w h => List.mem_cons_of_mem _ (List.mem_append_right _ h)) rfl (Nat.le_of_ble_eq_true rfl) (fun p e s m below meth c A ls X hr hlocks hP hD hS hl => ?_)
  have hx := X.1
  have hb := X.2.1
  have hl : lv_has ls 2 [(0, .ref o), (1, .int a0)] := hl
  have lk18 := X.2.2.2.2.1 (.fieldLink RX9 18 "BreathOnLoan$Text" "lawTo" "[I") (inX 73 rfl)
  have lk9 := X.2.2.2.2.1 (.fieldLink RX9 9 "BreathOnLoan$Text" "code" "[I") (inX 74 rfl)
  dsimp only [VC_X9_behind_x] at h
  refine lv_aload_n hx hb (dk DX9_behind 0 rfl) rfl (lv_at hl 0 rfl) ?_
  refine lv_iload_n hx hb (dk DX9_behind 1 rfl) rfl (lv_at hl 1 rfl) ?_
  obtain ⟨t1, ht1, h⟩ := h
  refine cXi (As := [.int a0]) (rest := []) X (m_X9_hasLaw_x (l := l) (dC := dC) (dI := dI) (q := q) (cI := cI) (cT := cT) (en := en) (sz := _) o a0 S h) (cwV 1 X.2.2.2.2.1 (gxV 76 69 70 71 60 rfl rfl rfl rfl rfl) rfl rfl rfl q_X9_hasLaw_x ⟨Nat.le_of_ble_eq_true rfl, Nat.le_of_ble_eq_true rfl⟩) (rT X hP ht1) hP hD hS rfl hl.1 rfl (Nat.le_of_ble_eq_true rfl) (dk DX9_behind 2 rfl) (fun r3 S2 H locs h hP hD hS => ?_)
  refine lv_if_eq (tgt := 34) hx hb (dk DX9_behind 3 rfl) (by decide) (fun hc => ?_) (fun hc => ?_)
  · have h := h.1 hc
    refine lv_iconst (v := 0) hx hb (dk DX9_behind 18 rfl) (by decide) ?_
    exact W.iret (v := 0) hx hb hr (fun t ht hW => ⟨⟨_, _, rfl, h, by rw [ht]; exact hP, va_K.moved hW.alike X.2.2.2.2.2.2.1, hD⟩, hS.F ht⟩) hS.2.2 (dk DX9_behind 19 rfl)
  · have h := h.2 hc
    refine lv_iload_n hx hb (dk DX9_behind 4 rfl) rfl (lv_at hl 1 rfl) ?_
    refine lv_aload_n hx hb (dk DX9_behind 5 rfl) rfl (lv_at hl 0 rfl) ?_
    obtain ⟨t4, ht4, h⟩ := h
    refine gT_2 X hP ht4 lk18 (dk DX9_behind 6 rfl) ?_
    refine alT_2 X hP ht4 (dk DX9_behind 7 rfl) ?_
    refine lv_icmp_ge (tgt := 34) hx hb (dk DX9_behind 8 rfl) (by decide) (fun hc => ?_) (fun hc => ?_)
    · have h := h.1 hc
      refine lv_iconst (v := 0) hx hb (dk DX9_behind 18 rfl) (by decide) ?_
      exact W.iret (v := 0) hx hb hr (fun t ht hW => ⟨⟨_, _, rfl, h, by rw [ht]; exact hP, va_K.moved hW.alike X.2.2.2.2.2.2.1, hD⟩, hS.F ht⟩) hS.2.2 (dk DX9_behind 19 rfl)
    · have h := h.2 hc
      refine lv_aload_n hx hb (dk DX9_behind 9 rfl) rfl (lv_at hl 0 rfl) ?_
      obtain ⟨t5, ht5, h⟩ := h
      refine gT_2 X hP ht5 lk18 (dk DX9_behind 10 rfl) ?_
      refine lv_iload_n hx hb (dk DX9_behind 11 rfl) rfl (lv_at hl 1 rfl) ?_
      obtain ⟨hin, h⟩ := h
      refine ldT_2 X hP ht5 hin (dk DX9_behind 12 rfl) ?_
      refine lv_aload_n hx hb (dk DX9_behind 13 rfl) rfl (lv_at hl 0 rfl) ?_
      obtain ⟨t6, ht6, h⟩ := h
      refine gT_0 X hP ht6 lk9 (dk DX9_behind 14 rfl) ?_
      refine alT_0 X hP ht6 (dk DX9_behind 15 rfl) ?_
      refine va_mmin hx hb (X.2.2.1.trans hl.1.symm) X.2.2.2.1 (X.2.2.2.2.1 (.methodLink RX9 28 Lib.Math.min.name) (inX 75 rfl)) (X.2.2.2.2.1 (.static Lib.Math.min.name) (inX 20 rfl)) (X.2.2.2.2.1 (.initialized "java/lang/Math") (inX 21 rfl)) (X.2.2.2.2.1 (.code Lib.Math.min.name Lib.Math.min.code 2 (some .int)) (inX 22 rfl)) (Nat.le_of_ble_eq_true rfl) (Nat.le_of_ble_eq_true rfl) (Nat.zero_le _) (Nat.zero_le _) (dk DX9_behind 16 rfl) ?_
      refine lv_goto (tgt := 35) hx hb (dk DX9_behind 17 rfl) (by decide) ?_
      exact W.iret (v := (if (Int32.ofNat t6.2.1.1) < (t5.2.2.2.1 a0.toNatClampNeg) then (Int32.ofNat t6.2.1.1) else (t5.2.2.2.1 a0.toNatClampNeg))) hx hb hr (fun t ht hW => ⟨⟨_, _, rfl, h, by rw [ht]; exact hP, va_K.moved hW.alike X.2.2.2.2.2.2.1, hD⟩, hS.F ht⟩) hS.2.2 (dk DX9_behind 19 rfl)

def ww_X9_codeAt_x : List Cond := .code yX9_codeAt cX9_codeAt 2 (some .int) :: (WdX ++ WsX)
theorem q_X9_codeAt_x : yX9_codeAt.cls = RX9 ∧ yX9_codeAt.cls ≠ "java/lang/invoke/MethodHandle" ∧ yX9_codeAt.cls ≠ "java/lang/invoke/VarHandle" ∧ (parseMethodDescriptor yX9_codeAt.desc).map (fun d => d.parameters.length) = some 1 := by decide +kernel
def VC_X9_codeAt_x (Post : Int32 → XS → Prop) (o : Nat) (a0 : Int32) (S : XS) : Prop := ((a0 < 0 → Post 0 S) ∧ (¬ a0 < 0 → ∃ t1 : TR, tx S o t1 ∧ (((Int32.ofNat t1.2.1.1) ≤ a0 → Post 0 S) ∧ (¬ (Int32.ofNat t1.2.1.1) ≤ a0 → ∃ t2 : TR, tx S o t2 ∧ vp_in a0 t2.2.1.1 ∧ Post (t2.2.1.2 a0.toNatClampNeg) S))))
set_option maxHeartbeats 4000000 in
set_option maxRecDepth 100000 in
theorem m_X9_codeAt_x {l : Launch} {dC : Nat → ClassId} {dI : Nat → Nat → Nat} {q : Nat → Nat} {cI cT : ClassId} {en : Nat → Nat} {sz : Nat} {Post : Int32 → XS → Prop} (o : Nat) (a0 : Int32) (S : XS) (h : VC_X9_codeAt_x Post o a0 S) : Met l yX9_codeAt ww_X9_codeAt_x ({ frames := 0, cells := 0, slots := 0, locals := 0 } : Room) (va_Pc [.ref o, .int a0] (preX dC dI q cI cT en S sz)) (va_Qi Post (atX dC dI q cI cT (va_A (wX q cI cT S) sz)) (va_A (wX q cI cT S) sz)) 0 0 (va_A (wX q cI cT S) sz) := by
  refine oX (cc := cX9_codeAt) (maxL := 2) (ret := (some .int)) (Qc := fun A => va_Qi Post (atX dC dI q cI cT A) A) (own := RX9) (by decide) rfl (fun w h => List.mem_cons_of_mem _ (List.mem_append_right _ h)) rfl (Nat.le_of_ble_eq_true rfl) (fun p e s m below meth c A ls X hr hlocks hP hD hS hl => ?_)
  have hx := X.1
  have hb := X.2.1
  have hl : lv_has ls 2 [(0, .ref o), (1, .int a0)] := hl
  have lk9 := X.2.2.2.2.1 (.fieldLink RX9 9 "BreathOnLoan$Text" "code" "[I") (inX 74 rfl)
  dsimp only [VC_X9_codeAt_x] at h
  refine lv_iload_n hx hb (dk DX9_codeAt 0 rfl) rfl (lv_at hl 1 rfl) ?_
  refine lv_if_lt (tgt := 22) hx hb (dk DX9_codeAt 1 rfl) (by decide) (fun hc => ?_) (fun hc => ?_)
  · have h := h.1 hc
    refine lv_iconst (v := 0) hx hb (dk DX9_codeAt 12 rfl) (by decide) ?_
    exact W.iret (v := 0) hx hb hr (fun t ht hW => ⟨⟨_, _, rfl, h, by rw [ht]; exact hP, va_K.moved hW.alike X.2.2.2.2.2.2.1, hD⟩, hS.F ht⟩) hS.2.2 (dk DX9_codeAt 13 rfl)
  · have h := h.2 hc
    refine lv_iload_n hx hb (dk DX9_codeAt 2 rfl) rfl (lv_at hl 1 rfl) ?_
    refine lv_aload_n hx hb (dk DX9_codeAt 3 rfl) rfl (lv_at hl 0 rfl) ?_
    obtain ⟨t1, ht1, h⟩ := h
    refine gT_0 X hP ht1 lk9 (dk DX9_codeAt 4 rfl) ?_
    refine alT_0 X hP ht1 (dk DX9_codeAt 5 rfl) ?_
    refine lv_icmp_ge (tgt := 22) hx hb (dk DX9_codeAt 6 rfl) (by decide) (fun hc => ?_) (fun hc => ?_)
    · have h := h.1 hc
      refine lv_iconst (v := 0) hx hb (dk DX9_codeAt 12 rfl) (by decide) ?_
      exact W.iret (v := 0) hx hb hr (fun t ht hW => ⟨⟨_, _, rfl, h, by rw [ht]; exact hP, va_K.moved hW.alike X.2.2.2.2.2.2.1, hD⟩, hS.F ht⟩) hS.2.2 (dk DX9_codeAt 13 rfl)
    · have h := h.2 hc
      refine lv_aload_n hx hb (dk DX9_codeAt 7 rfl) rfl (lv_at hl 0 rfl) ?_
      obtain ⟨t2, ht2, h⟩ := h
      refine gT_0 X hP ht2 lk9 (dk DX9_codeAt 8 rfl) ?_
      refine lv_iload_n hx hb (dk DX9_codeAt 9 rfl) rfl (lv_at hl 1 rfl) ?_
      obtain ⟨hin, h⟩ := h
      refine ldT_0 X hP ht2 hin (dk DX9_codeAt 10 rfl) ?_
      refine lv_goto (tgt := 23) hx hb (dk DX9_codeAt 11 rfl) (by decide) ?_
      exact W.iret (v := t2.2.1.2 a0.toNatClampNeg) hx hb hr (fun t ht hW => ⟨⟨_, _, rfl, h, by rw [ht]; exact hP, va_K.moved hW.alike X.2.2.2.2.2.2.1, hD⟩, hS.F ht⟩) hS.2.2 (dk DX9_codeAt 13 rfl)

def ww_X5_textAt_1 : List Cond := .code yX5_textAt cX5_textAt 2 (some (.object "BreathOnLoan$Text")) :: (WdX ++ WsX)
theorem q_X5_textAt_1 : yX5_textAt.cls = RX5 ∧ yX5_textAt.cls ≠ "java/lang/invoke/MethodHandle" ∧ yX5_textAt.cls ≠ "java/lang/invoke/VarHandle" ∧ (parseMethodDescriptor yX5_textAt.desc).map (fun d => d.parameters.length) = some 1 := by decide +kernel
def VC_X5_textAt_1 (Post : (Option Nat) → XS → Prop) (a0 : Int32) (S : XS) : Prop := ((a0 < 0 → Post none S) ∧ (¬ a0 < 0 → (((S.1 38) ≤ a0 → Post none S) ∧ (¬ (S.1 38) ≤ a0 → vp_in a0 4 ∧ Post (S.2.2.1 20 a0.toNatClampNeg) S))))
set_option maxHeartbeats 4000000 in
set_option maxRecDepth 100000 in
theorem m_X5_textAt_1 {l : Launch} {dC : Nat → ClassId} {dI : Nat → Nat → Nat} {q : Nat → Nat} {cI cT : ClassId} {en : Nat → Nat} {sz : Nat} {Post : (Option Nat) → XS → Prop} (a0 : Int32) (S : XS) (h : VC_X5_textAt_1 Post a0 S) : Met l yX5_textAt ww_X5_textAt_1 ({ frames := 0, cells := 0, slots := 0, locals := 0 } : Room) (va_Pc [.ref (q 1), .int a0] (preX dC dI q cI cT en S sz)) (va_Qq Post (atX dC dI q cI cT (va_A (wX q cI cT S) sz)) (va_A (wX q cI cT S) sz)) 0 0 (va_A (wX q cI cT S) sz) := by
  refine oX (cc := cX5_textAt) (maxL := 2) (ret := (some (.object "BreathOnLoan$Text"))) (Qc := fun A => va_Qq Post (atX dC dI q cI cT A) A) (own := RX5) (by decide) rfl (fun w h => List.mem_cons_of_mem _ (List.mem_append_right _ h)) rfl (Nat.le_of_ble_eq_true rfl) (fun p e s m below meth c A ls X hr hlocks hP hD hS hl => ?_)
  have hx := X.1
  have hb := X.2.1
  have hl : lv_has ls 2 [(0, .ref (q 1)), (1, .int a0)] := hl
  have lk56 := X.2.2.2.2.1 (.fieldLink RX5 56 "BreathOnLoan$State" "textCount" "I") (inX 58 rfl)
  have lk48 := X.2.2.2.2.1 (.fieldLink RX5 48 "BreathOnLoan$State" "texts" "[LBreathOnLoan$Text;") (inX 59 rfl)
  dsimp only [VC_X5_textAt_1] at h
  refine lv_iload_n hx hb (dk DX5_textAt 0 rfl) rfl (lv_at hl 1 rfl) ?_
  refine lv_if_lt (tgt := 21) hx hb (dk DX5_textAt 1 rfl) (by decide) (fun hc => ?_) (fun hc => ?_)
  · have h := h.1 hc
    refine lv_null hx hb (dk DX5_textAt 11 rfl) ?_
    exact W.aret (v := va_rf none) hx hb hr (Or.inl ⟨_, rfl⟩) (rfOk _) (fun t ht hW => ⟨⟨none, _, rfl, h, by rw [ht]; exact hP, va_K.moved hW.alike X.2.2.2.2.2.2.1, hD⟩, hS.F ht⟩) hS.2.2 (dk DX5_textAt 12 rfl)
  · have h := h.2 hc
    refine lv_iload_n hx hb (dk DX5_textAt 2 rfl) rfl (lv_at hl 1 rfl) ?_
    refine lv_aload_n hx hb (dk DX5_textAt 3 rfl) rfl (lv_at hl 0 rfl) ?_
    refine gX_1 X hP 6 (by decide) rfl lk56 (dk DX5_textAt 4 rfl) ?_
    refine lv_icmp_ge (tgt := 21) hx hb (dk DX5_textAt 5 rfl) (by decide) (fun hc => ?_) (fun hc => ?_)
    · have h := h.1 hc
      refine lv_null hx hb (dk DX5_textAt 11 rfl) ?_
      exact W.aret (v := va_rf none) hx hb hr (Or.inl ⟨_, rfl⟩) (rfOk _) (fun t ht hW => ⟨⟨none, _, rfl, h, by rw [ht]; exact hP, va_K.moved hW.alike X.2.2.2.2.2.2.1, hD⟩, hS.F ht⟩) hS.2.2 (dk DX5_textAt 12 rfl)
    · have h := h.2 hc
      refine lv_aload_n hx hb (dk DX5_textAt 6 rfl) rfl (lv_at hl 0 rfl) ?_
      refine gX_1 X hP 5 (by decide) rfl lk48 (dk DX5_textAt 7 rfl) ?_
      refine lv_iload_n hx hb (dk DX5_textAt 8 rfl) rfl (lv_at hl 1 rfl) ?_
      obtain ⟨hin, h⟩ := h
      refine laX_20 X hP hin (dk DX5_textAt 9 rfl) ?_
      refine lv_goto (tgt := 22) hx hb (dk DX5_textAt 10 rfl) (by decide) ?_
      exact W.aret (v := va_rf (S.2.2.1 20 a0.toNatClampNeg)) hx hb hr (Or.inl ⟨_, rfl⟩) (rfOk _) (fun t ht hW => ⟨⟨(S.2.2.1 20 a0.toNatClampNeg), _, rfl, h, by rw [ht]; exact hP, va_K.moved hW.alike X.2.2.2.2.2.2.1, hD⟩, hS.F ht⟩) hS.2.2 (dk DX5_textAt 12 rfl)

def ww_X5_addText_1 : List Cond := .code yX5_addText cX5_addText 2 (some .int) :: (WdX ++ WsX)
theorem q_X5_addText_1 : yX5_addText.cls = RX5 ∧ yX5_addText.cls ≠ "java/lang/invoke/MethodHandle" ∧ yX5_addText.cls ≠ "java/lang/invoke/VarHandle" ∧ (parseMethodDescriptor yX5_addText.desc).map (fun d => d.parameters.length) = some 1 := by decide +kernel
def VC_X5_addText_1 (Post : Int32 → XS → Prop) (a0 : Nat) (S : XS) : Prop := (((S.1 38) < 4 → (∀ a : Nat, (some a0) = some a → ∃ t : TR, tx S a t) ∧ vp_in (S.1 38) 4 ∧ ∀ S1 : XS, S1 = xG S 20 (va_up (S.2.2.1 20) (S.1 38).toNatClampNeg (some a0)) → ∀ v2 : Int32, v2 = (S1.1 38) + 1 → ∀ S3 : XS, S3 = xI S1 38 v2 → Post ((S3.1 38) - 1) S3) ∧ (¬ (S.1 38) < 4 → Post (-1) S))
set_option maxHeartbeats 4000000 in
set_option maxRecDepth 100000 in
theorem m_X5_addText_1 {l : Launch} {dC : Nat → ClassId} {dI : Nat → Nat → Nat} {q : Nat → Nat} {cI cT : ClassId} {en : Nat → Nat} {sz : Nat} {Post : Int32 → XS → Prop} (a0 : Nat) (S : XS) (h : VC_X5_addText_1 Post a0 S) : Met l yX5_addText ww_X5_addText_1 ({ frames := 0, cells := 0, slots := 0, locals := 0 } : Room) (va_Pc [.ref (q 1), .ref a0] (preX dC dI q cI cT en S sz)) (va_Qi Post (atX dC dI q cI cT (va_A (wX q cI cT S) sz)) (va_A (wX q cI cT S) sz)) 0 0 (va_A (wX q cI cT S) sz) := by
  refine oX (cc := cX5_addText) (maxL := 2) (ret := (some .int)) (Qc := fun A => va_Qi Post (atX dC dI q cI cT A) A) (own := RX5) (by decide) rfl (fun w h => List.mem_cons_of_mem _ (List.mem_append_right _ h)) rfl (Nat.le_of_ble_eq_true rfl) (fun p e s m below meth c A ls X hr hlocks hP hD hS hl => ?_)
  have hx := X.1
  have hb := X.2.1
  have hl : lv_has ls 2 [(0, .ref (q 1)), (1, .ref a0)] := hl
  have lk56 := X.2.2.2.2.1 (.fieldLink RX5 56 "BreathOnLoan$State" "textCount" "I") (inX 58 rfl)
  have lk48 := X.2.2.2.2.1 (.fieldLink RX5 48 "BreathOnLoan$State" "texts" "[LBreathOnLoan$Text;") (inX 59 rfl)
  dsimp only [VC_X5_addText_1] at h
  refine lv_aload_n hx hb (dk DX5_addText 0 rfl) rfl (lv_at hl 0 rfl) ?_
  refine gX_1 X hP 6 (by decide) rfl lk56 (dk DX5_addText 1 rfl) ?_
  refine lv_iconst (v := 4) hx hb (dk DX5_addText 2 rfl) (by decide) ?_
  refine lv_icmp_lt (tgt := 10) hx hb (dk DX5_addText 3 rfl) (by decide) (fun hc => ?_) (fun hc => ?_)
  · have h := h.1 hc
    refine lv_aload_n hx hb (dk DX5_addText 6 rfl) rfl (lv_at hl 0 rfl) ?_
    refine gX_1 X hP 5 (by decide) rfl lk48 (dk DX5_addText 7 rfl) ?_
    refine lv_aload_n hx hb (dk DX5_addText 8 rfl) rfl (lv_at hl 0 rfl) ?_
    refine gX_1 X hP 6 (by decide) rfl lk56 (dk DX5_addText 9 rfl) ?_
    refine lv_aload_n hx hb (dk DX5_addText 10 rfl) rfl (lv_at hl 1 rfl) ?_
    obtain ⟨hra, h⟩ := h
    obtain ⟨hin, h⟩ := h
    refine saX_20 X hP hD hS (r := (some a0)) hra hin (dk DX5_addText 11 rfl) (fun S1 eS1 H locs hP hD hS => ?_)
    have h := h S1 eS1
    refine lv_aload_n hx hb (dk DX5_addText 12 rfl) rfl (lv_at hl 0 rfl) ?_
    refine lv_dup hx hb (dk DX5_addText 13 rfl) rfl ?_
    refine gX_1 X hP 6 (by decide) rfl lk56 (dk DX5_addText 14 rfl) ?_
    refine lv_iconst (v := 1) hx hb (dk DX5_addText 15 rfl) (by decide) ?_
    refine lv_iadd hx hb (dk DX5_addText 16 rfl) ?_
    refine lv_topi (fun v2 ev2 => ?_)
    have h := h v2 ev2
    refine pX_1_6 X hP hD hS lk56 (dk DX5_addText 17 rfl) (fun S3 eS3 H locs hP hD hS => ?_)
    have h := h S3 eS3
    refine lv_aload_n hx hb (dk DX5_addText 18 rfl) rfl (lv_at hl 0 rfl) ?_
    refine gX_1 X hP 6 (by decide) rfl lk56 (dk DX5_addText 19 rfl) ?_
    refine lv_iconst (v := 1) hx hb (dk DX5_addText 20 rfl) (by decide) ?_
    refine lv_isub hx hb (dk DX5_addText 21 rfl) ?_
    exact W.iret (v := (S3.1 38) - 1) hx hb hr (fun t ht hW => ⟨⟨_, _, rfl, h, by rw [ht]; exact hP, va_K.moved hW.alike X.2.2.2.2.2.2.1, hD⟩, hS.F ht⟩) hS.2.2 (dk DX5_addText 22 rfl)
  · have h := h.2 hc
    refine lv_iconst (v := (-1)) hx hb (dk DX5_addText 4 rfl) (by decide) ?_
    exact W.iret (v := (-1)) hx hb hr (fun t ht hW => ⟨⟨_, _, rfl, h, by rw [ht]; exact hP, va_K.moved hW.alike X.2.2.2.2.2.2.1, hD⟩, hS.F ht⟩) hS.2.2 (dk DX5_addText 5 rfl)

def ww_X2_lawText_1 : List Cond := .code yX2_lawText cX2_lawText 3 (some (.object "BreathOnLoan$Text")) :: (WdX ++ WsX)
theorem q_X2_lawText_1 : yX2_lawText.cls ≠ "java/lang/invoke/MethodHandle" ∧ yX2_lawText.cls ≠ "java/lang/invoke/VarHandle" ∧ (parseMethodDescriptor yX2_lawText.desc).map (fun d => d.parameters.length) = some 2 := by decide +kernel
def VC_X2_lawText_1 (Post : (Option Nat) → XS → Prop) (a1 : Int32) (S : XS) : Prop := VC_X5_textAt_1 (fun r2 S1 => ((r2 = none → Post none S1) ∧ ∀ a3 : Nat, r2 = some a3 → ∃ t4 : TR, tx S1 a3 t4 ∧ VC_X9_hasLaw_x (fun r6 S5 => ((r6 = 0 → Post none S5) ∧ (¬ r6 = 0 → Post (some a3) S5))) a3 a1 S1)) (S.1 39) S
set_option maxHeartbeats 4000000 in
set_option maxRecDepth 100000 in
theorem m_X2_lawText_1 {l : Launch} {dC : Nat → ClassId} {dI : Nat → Nat → Nat} {q : Nat → Nat} {cI cT : ClassId} {en : Nat → Nat} {sz : Nat} {Post : (Option Nat) → XS → Prop} (a1 : Int32) (S : XS) (h : VC_X2_lawText_1 Post a1 S) : Met l yX2_lawText ww_X2_lawText_1 ({ frames := 1, cells := 0, slots := 0, locals := 21 } : Room) (va_Pc [.ref (q 1), .int a1] (preX dC dI q cI cT en S sz)) (va_Qq Post (atX dC dI q cI cT (va_A (wX q cI cT S) sz)) (va_A (wX q cI cT S) sz)) 0 0 (va_A (wX q cI cT S) sz) := by
  refine oX (cc := cX2_lawText) (maxL := 3) (ret := (some (.object "BreathOnLoan$Text"))) (Qc := fun A => va_Qq Post (atX dC dI q cI cT A) A) (own := RX2) (by decide) rfl (fun w h => List.mem_cons_of_mem _ (List.mem_append_right _ h)) rfl (Nat.le_of_ble_eq_true rfl) (fun p e s m below meth c A ls X hr hlocks hP hD hS hl => ?_)
  have hx := X.1
  have hb := X.2.1
  have hl : lv_has ls 3 [(0, .ref (q 1)), (1, .int a1)] := hl
  have lk71 := X.2.2.2.2.1 (.fieldLink RX2 71 "BreathOnLoan$State" "ruling" "I") (inX 63 rfl)
  dsimp only [VC_X2_lawText_1] at h
  refine lv_aload_n hx hb (dk DX2_lawText 0 rfl) rfl (lv_at hl 0 rfl) ?_
  refine lv_aload_n hx hb (dk DX2_lawText 1 rfl) rfl (lv_at hl 0 rfl) ?_
  refine gX_1 X hP 7 (by decide) rfl lk71 (dk DX2_lawText 2 rfl) ?_
  refine cXq (As := [.int (S.1 39)]) (rest := []) X (m_X5_textAt_1 (l := l) (dC := dC) (dI := dI) (q := q) (cI := cI) (cT := cT) (en := en) (sz := _) (S.1 39) S h) (cwV 1 X.2.2.2.2.1 (gxV 64 65 66 67 57 rfl rfl rfl rfl rfl) rfl rfl rfl q_X5_textAt_1 ⟨Nat.le_of_ble_eq_true rfl, Nat.le_of_ble_eq_true rfl⟩) (rX_1 X hP) hP hD hS rfl hl.1 rfl (Nat.le_of_ble_eq_true rfl) (dk DX2_lawText 3 rfl) (fun r2 S1 H locs h hP hD hS => ?_)
  rcases r2 with _ | a3
  · have h := h.1 rfl
    refine lv_astore_nN (lv' := [(2, .null), (0, .ref (q 1)), (1, .int a1)]) hx hb (dk DX2_lawText 4 rfl) rfl hl (by decide) rfl (fun ls hl => ?_)
    refine lv_aload_nN hx hb (dk DX2_lawText 5 rfl) rfl (lv_at hl 0 rfl) ?_
    refine lv_ifnullN (tgt := 25) hx hb (dk DX2_lawText 6 rfl) (by decide) ?_
    refine lv_null hx hb (dk DX2_lawText 13 rfl) ?_
    exact W.aret (v := va_rf none) hx hb hr (Or.inl ⟨_, rfl⟩) (rfOk _) (fun t ht hW => ⟨⟨none, _, rfl, h, by rw [ht]; exact hP, va_K.moved hW.alike X.2.2.2.2.2.2.1, hD⟩, hS.F ht⟩) hS.2.2 (dk DX2_lawText 14 rfl)
  · have h := h.2 a3 rfl
    refine lv_astore_n (lv' := [(2, .ref a3), (0, .ref (q 1)), (1, .int a1)]) hx hb (dk DX2_lawText 4 rfl) rfl hl (by decide) rfl (fun ls hl => ?_)
    refine lv_aload_n hx hb (dk DX2_lawText 5 rfl) rfl (lv_at hl 0 rfl) ?_
    refine lv_ifnull hx hb (dk DX2_lawText 6 rfl) ?_
    refine lv_aload_n hx hb (dk DX2_lawText 7 rfl) rfl (lv_at hl 0 rfl) ?_
    refine lv_iload_n hx hb (dk DX2_lawText 8 rfl) rfl (lv_at hl 2 rfl) ?_
    obtain ⟨t4, ht4, h⟩ := h
    refine cXi (As := [.int a1]) (rest := []) X (m_X9_hasLaw_x (l := l) (dC := dC) (dI := dI) (q := q) (cI := cI) (cT := cT) (en := en) (sz := _) a3 a1 S1 h) (cwV 1 X.2.2.2.2.1 (gxV 68 69 70 71 60 rfl rfl rfl rfl rfl) rfl rfl rfl q_X9_hasLaw_x ⟨Nat.le_of_ble_eq_true rfl, Nat.le_of_ble_eq_true rfl⟩) (rT X hP ht4) hP hD hS rfl hl.1 rfl (Nat.le_of_ble_eq_true rfl) (dk DX2_lawText 9 rfl) (fun r6 S5 H locs h hP hD hS => ?_)
    refine lv_if_eq (tgt := 25) hx hb (dk DX2_lawText 10 rfl) (by decide) (fun hc => ?_) (fun hc => ?_)
    · have h := h.1 hc
      refine lv_null hx hb (dk DX2_lawText 13 rfl) ?_
      exact W.aret (v := va_rf none) hx hb hr (Or.inl ⟨_, rfl⟩) (rfOk _) (fun t ht hW => ⟨⟨none, _, rfl, h, by rw [ht]; exact hP, va_K.moved hW.alike X.2.2.2.2.2.2.1, hD⟩, hS.F ht⟩) hS.2.2 (dk DX2_lawText 14 rfl)
    · have h := h.2 hc
      refine lv_aload_n hx hb (dk DX2_lawText 11 rfl) rfl (lv_at hl 0 rfl) ?_
      refine lv_goto (tgt := 26) hx hb (dk DX2_lawText 12 rfl) (by decide) ?_
      exact W.aret (v := va_rf (some a3)) hx hb hr (Or.inl ⟨_, rfl⟩) (rfOk _) (fun t ht hW => ⟨⟨(some a3), _, rfl, h, by rw [ht]; exact hP, va_K.moved hW.alike X.2.2.2.2.2.2.1, hD⟩, hS.F ht⟩) hS.2.2 (dk DX2_lawText 14 rfl)

