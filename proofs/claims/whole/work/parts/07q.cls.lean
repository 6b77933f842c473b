-- X2_work_48 X2_smokeIn_48_1 X2_costOf_48_1 X2_brittleOf_48_1 X2_shareOf_48_1
def ww_X2_work_48 : List Cond := .code yX2_work cX2_work 7 (some .int) :: (WdX ++ WsX)
theorem q_X2_work_48 : yX2_work.cls = RX2 ∧ yX2_work.cls ≠ "java/lang/invoke/MethodHandle" ∧ yX2_work.cls ≠ "java/lang/invoke/VarHandle" ∧ (parseMethodDescriptor yX2_work.desc).map (fun d => d.parameters.length) = some 2 := by decide +kernel
abbrev Hd_X2_work_48 : Type := (Nat × Int32 × Int32 × Int32) ⊕ (Nat × Int32 × Int32 × Int32 × Int32 × Int32) ⊕ (Nat × Int32 × Int32 × Int32 × Int32 × Int32)
def B_X2_work_48 (Post : Int32 → XS → Prop) (K : Hd_X2_work_48 → XS → Prop) : Hd_X2_work_48 → XS → Prop
  | (.inl (x1, x2, x3, x4)), S => ((x3 ≤ x4 → VC_X2_takeTop_48 (fun r9 S8 => Post r9 S8) S) ∧ (¬ x3 ≤ x4 → ∃ t10 : TR, tx S x1 t10 ∧ VC_X9_codeAt_x (fun r12 S11 => ∀ v13 : Int32, v13 = r12 &&& 127 → ∃ t14 : TR, tx S11 x1 t14 ∧ VC_X9_codeAt_x (fun r16 S15 => ∀ v17 : Int32, v17 = r16 >>> (7 &&& 31) → ((v13 = 62 → K (.inr (.inl (x1, x2, x3, x4, v13, v17))) S15) ∧ (¬ v13 = 62 → ((¬ v13 = 63 → K (.inr (.inr (x1, x2, x3, x4, v13, v17))) S15) ∧ (v13 = 63 → VC_X2_takeTop_48 (fun r19 S18 => ((¬ r19 = 0 → K (.inr (.inr (x1, x2, x3, x4, v13, v17))) S18) ∧ (r19 = 0 → K (.inr (.inl (x1, x2, x3, x4, v13, v17))) S18))) S15))))) x1 x4 S11) x1 x4 S))
  | (.inr (.inl (x1, x2, x3, x4, x5, x6))), S => ∀ v20 : Int32, v20 = (if x4 < (x6 - 1) then (x6 - 1) else x4) → ∀ v21 : Int32, v21 = v20 + 1 → K (.inl (x1, x2, x3, v21)) S
  | (.inr (.inr (x1, x2, x3, x4, x5, x6))), S => ((x5 = 63 → ∀ v22 : Int32, v22 = x4 + 1 → K (.inl (x1, x2, x3, v22)) S) ∧ (¬ x5 = 63 → VC_X2_obey_48 (fun S23 => ∀ v24 : Int32, v24 = x4 + 1 → K (.inl (x1, x2, x3, v24)) S23) x5 x6 S))
def VC_X2_work_48 (Post : Int32 → XS → Prop) (a0 : Nat) (a1 : Int32) (S : XS) : Prop := ∀ K : Hd_X2_work_48 → XS → Prop, (∀ h S, B_X2_work_48 Post K h S → K h S) → ∀ S1 : XS, S1 = xI S 1538 0 → ∃ t2 : TR, tx S1 a0 t2 ∧ VC_X9_behind_x (fun r4 S3 => ∃ t5 : TR, tx S3 a0 t5 ∧ VC_X9_firstOf_x (fun r7 S6 => K (.inl (a0, a1, r4, r7)) S6) a0 a1 S3) a0 a1 S1
set_option maxHeartbeats 4000000 in
set_option maxRecDepth 100000 in
theorem h_X2_work_48_0 {p : Program} {l : Launch} {e : Env} {s : State} {m : MethodId} {below : List Frame} {meth : Method} {c : Code} {dC : Nat → ClassId} {dI : Nat → Nat → Nat} {q : Nat → Nat} {cI cT : ClassId} {en : Nat → Nat} {A : Nat → Prop} {args : Array Value} {Post : Int32 → XS → Prop} {K : Hd_X2_work_48 → XS → Prop} (X : XX p s m args c cX2_work 7 ww_X2_work_48 RX2 dC dI cI cT en A) (hr : meth.sig.returnType = (some .int)) (hlocks : meth.locks = false) (hK0 : ∀ (x1 : Nat) (x2 : Int32) (x3 : Int32) (x4 : Int32) (S : XS), K (.inl (x1, x2, x3, x4)) S → ∀ (H : Heap) (locs : List Loc), va_P (dC, dI) vwCl (wX q cI cT S) H → va_D A (wX q cI cT S) → va_S A s.heap H locs → ∀ ls : Array Slot, lv_has ls 7 [(0, .ref (q 48)), (1, .ref x1), (2, .int x2), (3, .int x3), (4, .int x4)] → W p l e (headSpec ww_X2_work_48 ({ frames := 3, cells := 0, slots := 0, locals := 87 } : Room)).room s m args below meth c H locs 0 0 (MQ below (va_Qi Post (atX dC dI q cI cT A) A) args s 0 0 A) (F0 m 18 ls [])) (hK1 : ∀ (x1 : Nat) (x2 : Int32) (x3 : Int32) (x4 : Int32) (x5 : Int32) (x6 : Int32) (S : XS), K (.inr (.inl (x1, x2, x3, x4, x5, x6))) S → ∀ (H : Heap) (locs : List Loc), va_P (dC, dI) vwCl (wX q cI cT S) H → va_D A (wX q cI cT S) → va_S A s.heap H locs → ∀ ls : Array Slot, lv_has ls 7 [(0, .ref (q 48)), (1, .ref x1), (2, .int x2), (3, .int x3), (4, .int x4), (5, .int x5), (6, .int x6)] → W p l e (headSpec ww_X2_work_48 ({ frames := 3, cells := 0, slots := 0, locals := 87 } : Room)).room s m args below meth c H locs 0 0 (MQ below (va_Qi Post (atX dC dI q cI cT A) A) args s 0 0 A) (F0 m 67 ls [])) (hK2 : ∀ (x1 : Nat) (x2 : Int32) (x3 : Int32) (x4 : Int32) (x5 : Int32) (x6 : Int32) (S : XS), K (.inr (.inr (x1, x2, x3, x4, x5, x6))) S → ∀ (H : Heap) (locs : List Loc), va_P (dC, dI) vwCl (wX q cI cT S) H → va_D A (wX q cI cT S) → va_S A s.heap H locs → ∀ ls : Array Slot, lv_has ls 7 [(0, .ref (q 48)), (1, .ref x1), (2, .int x2), (3, .int x3), (4, .int x4), (5, .int x5), (6, .int x6)] → W p l e (headSpec ww_X2_work_48 ({ frames := 3, cells := 0, slots := 0, locals := 87 } : Room)).room s m args below meth c H locs 0 0 (MQ below (va_Qi Post (atX dC dI q cI cT A) A) args s 0 0 A) (F0 m 81 ls [])) (x1 : Nat) (x2 : Int32) (x3 : Int32) (x4 : Int32) (S : XS) (h : B_X2_work_48 Post K (.inl (x1, x2, x3, x4)) S) : ∀ (H : Heap) (locs : List Loc), va_P (dC, dI) vwCl (wX q cI cT S) H → va_D A (wX q cI cT S) → va_S A s.heap H locs → ∀ ls : Array Slot, lv_has ls 7 [(0, .ref (q 48)), (1, .ref x1), (2, .int x2), (3, .int x3), (4, .int x4)] → W p l e (headSpec ww_X2_work_48 ({ frames := 3, cells := 0, slots := 0, locals := 87 } : Room)).room s m args below meth c H locs 0 0 (MQ below (va_Qi Post (atX dC dI q cI cT A) A) args s 0 0 A) (F0 m 18 ls []) := by
  have hx := X.1
  have hb := X.2.1
  intro H locs hP hD hS ls hl
  have lk113 := X.2.2.2.2.1 (.fieldLink RX2 113 "BreathOnLoan$Judge" "top" "I") (inX 80 rfl)
  dsimp only [B_X2_work_48] at h
  refine lv_iload hx hb (dk DX2_work 11 rfl) (lv_at hl 4 rfl) ?_
  refine lv_iload_n hx hb (dk DX2_work 12 rfl) rfl (lv_at hl 3 rfl) ?_
  refine lv_icmp_ge (tgt := 102) hx hb (dk DX2_work 13 rfl) (by decide) (fun hc => ?_) (fun hc => ?_)
  · have h := h.1 hc
    refine lv_aload_n hx hb (dk DX2_work 51 rfl) rfl (lv_at hl 0 rfl) ?_
    refine cXi (As := []) (rest := []) X (m_X2_takeTop_48 (l := l) (dC := dC) (dI := dI) (q := q) (cI := cI) (cT := cT) (en := en) (sz := _) S h) (cwV 0 X.2.2.2.2.1 (gxV 96 97 98 95 79 rfl rfl rfl rfl rfl) rfl rfl rfl q_X2_takeTop_48 ⟨Nat.le_of_ble_eq_true rfl, Nat.le_of_ble_eq_true rfl⟩) (rX_48 X hP) hP hD hS rfl hl.1 rfl (Nat.le_of_ble_eq_true rfl) (dk DX2_work 52 rfl) (fun r9 S8 H locs h hP hD hS => ?_)
    exact W.iret (v := r9) hx hb hr (fun t ht hW => ⟨⟨_, _, rfl, h, by rw [ht]; exact hP, va_K.moved hW.alike X.2.2.2.2.2.2.1, hD⟩, hS.F ht⟩) hS.2.2 (dk DX2_work 53 rfl)
  · have h := h.2 hc
    refine lv_aload_n hx hb (dk DX2_work 14 rfl) rfl (lv_at hl 1 rfl) ?_
    refine lv_iload hx hb (dk DX2_work 15 rfl) (lv_at hl 4 rfl) ?_
    obtain ⟨t10, ht10, h⟩ := h
    refine cXi (As := [.int x4]) (rest := []) X (m_X9_codeAt_x (l := l) (dC := dC) (dI := dI) (q := q) (cI := cI) (cT := cT) (en := en) (sz := _) x1 x4 S h) (cwV 1 X.2.2.2.2.1 (gxV 112 113 114 71 78 rfl rfl rfl rfl rfl) rfl rfl rfl q_X9_codeAt_x ⟨Nat.le_of_ble_eq_true rfl, Nat.le_of_ble_eq_true rfl⟩) (rT X hP ht10) hP hD hS rfl hl.1 rfl (Nat.le_of_ble_eq_true rfl) (dk DX2_work 16 rfl) (fun r12 S11 H locs h hP hD hS => ?_)
    refine lv_bipush (v := 127) hx hb (dk DX2_work 17 rfl) (by decide) ?_
    refine lv_iand hx hb (dk DX2_work 18 rfl) ?_
    refine lv_topi (fun v13 ev13 => ?_)
    have h := h v13 ev13
    refine lv_istore (lv' := [(5, .int v13), (0, .ref (q 48)), (1, .ref x1), (2, .int x2), (3, .int x3), (4, .int x4)]) hx hb (dk DX2_work 19 rfl) hl (by decide) rfl (fun ls hl => ?_)
    refine lv_aload_n hx hb (dk DX2_work 20 rfl) rfl (lv_at hl 2 rfl) ?_
    refine lv_iload hx hb (dk DX2_work 21 rfl) (lv_at hl 5 rfl) ?_
    obtain ⟨t14, ht14, h⟩ := h
    refine cXi (As := [.int x4]) (rest := []) X (m_X9_codeAt_x (l := l) (dC := dC) (dI := dI) (q := q) (cI := cI) (cT := cT) (en := en) (sz := _) x1 x4 S11 h) (cwV 1 X.2.2.2.2.1 (gxV 112 113 114 71 78 rfl rfl rfl rfl rfl) rfl rfl rfl q_X9_codeAt_x ⟨Nat.le_of_ble_eq_true rfl, Nat.le_of_ble_eq_true rfl⟩) (rT X hP ht14) hP hD hS rfl hl.1 rfl (Nat.le_of_ble_eq_true rfl) (dk DX2_work 22 rfl) (fun r16 S15 H locs h hP hD hS => ?_)
    refine lv_bipush (v := 7) hx hb (dk DX2_work 23 rfl) (by decide) ?_
    refine lv_ishr hx hb (dk DX2_work 24 rfl) ?_
    refine lv_topi (fun v17 ev17 => ?_)
    have h := h v17 ev17
    refine lv_istore (lv' := [(6, .int v17), (5, .int v13), (0, .ref (q 48)), (1, .ref x1), (2, .int x2), (3, .int x3), (4, .int x4)]) hx hb (dk DX2_work 25 rfl) hl (by decide) rfl (fun ls hl => ?_)
    refine lv_iload hx hb (dk DX2_work 26 rfl) (lv_at hl 1 rfl) ?_
    refine lv_bipush (v := 62) hx hb (dk DX2_work 27 rfl) (by decide) ?_
    refine lv_icmp_eq (tgt := 67) hx hb (dk DX2_work 28 rfl) (by decide) (fun hc => ?_) (fun hc => ?_)
    · have h := h.1 hc
      exact hK1 x1 x2 x3 x4 v13 v17 S15 h _ _ hP hD hS ls (lv_sub hl [2, 3, 4, 5, 6, 1, 0] rfl)
    · have h := h.2 hc
      refine lv_iload hx hb (dk DX2_work 29 rfl) (lv_at hl 1 rfl) ?_
      refine lv_bipush (v := 63) hx hb (dk DX2_work 30 rfl) (by decide) ?_
      refine lv_icmp_ne (tgt := 81) hx hb (dk DX2_work 31 rfl) (by decide) (fun hc => ?_) (fun hc => ?_)
      · have h := h.1 hc
        exact hK2 x1 x2 x3 x4 v13 v17 S15 h _ _ hP hD hS ls (lv_sub hl [2, 3, 4, 5, 6, 1, 0] rfl)
      · have h := h.2 hc
        refine lv_aload_n hx hb (dk DX2_work 32 rfl) rfl (lv_at hl 2 rfl) ?_
        refine cXi (As := []) (rest := []) X (m_X2_takeTop_48 (l := l) (dC := dC) (dI := dI) (q := q) (cI := cI) (cT := cT) (en := en) (sz := _) S15 h) (cwV 0 X.2.2.2.2.1 (gxV 96 97 98 95 79 rfl rfl rfl rfl rfl) rfl rfl rfl q_X2_takeTop_48 ⟨Nat.le_of_ble_eq_true rfl, Nat.le_of_ble_eq_true rfl⟩) (rX_48 X hP) hP hD hS rfl hl.1 rfl (Nat.le_of_ble_eq_true rfl) (dk DX2_work 33 rfl) (fun r19 S18 H locs h hP hD hS => ?_)
        refine lv_if_ne (tgt := 81) hx hb (dk DX2_work 34 rfl) (by decide) (fun hc => ?_) (fun hc => ?_)
        · have h := h.1 hc
          exact hK2 x1 x2 x3 x4 v13 v17 S18 h _ _ hP hD hS ls (lv_sub hl [2, 3, 4, 5, 6, 1, 0] rfl)
        · have h := h.2 hc
          exact hK1 x1 x2 x3 x4 v13 v17 S18 h _ _ hP hD hS ls (lv_sub hl [2, 3, 4, 5, 6, 1, 0] rfl)
set_option maxHeartbeats 4000000 in
set_option maxRecDepth 100000 in
theorem h_X2_work_48_1 {p : Program} {l : Launch} {e : Env} {s : State} {m : MethodId} {below : List Frame} {meth : Method} {c : Code} {dC : Nat → ClassId} {dI : Nat → Nat → Nat} {q : Nat → Nat} {cI cT : ClassId} {en : Nat → Nat} {A : Nat → Prop} {args : Array Value} {Post : Int32 → XS → Prop} {K : Hd_X2_work_48 → XS → Prop} (X : XX p s m args c cX2_work 7 ww_X2_work_48 RX2 dC dI cI cT en A) (hr : meth.sig.returnType = (some .int)) (hlocks : meth.locks = false) (hK0 : ∀ (x1 : Nat) (x2 : Int32) (x3 : Int32) (x4 : Int32) (S : XS), K (.inl (x1, x2, x3, x4)) S → ∀ (H : Heap) (locs : List Loc), va_P (dC, dI) vwCl (wX q cI cT S) H → va_D A (wX q cI cT S) → va_S A s.heap H locs → ∀ ls : Array Slot, lv_has ls 7 [(0, .ref (q 48)), (1, .ref x1), (2, .int x2), (3, .int x3), (4, .int x4)] → W p l e (headSpec ww_X2_work_48 ({ frames := 3, cells := 0, slots := 0, locals := 87 } : Room)).room s m args below meth c H locs 0 0 (MQ below (va_Qi Post (atX dC dI q cI cT A) A) args s 0 0 A) (F0 m 18 ls [])) (hK1 : ∀ (x1 : Nat) (x2 : Int32) (x3 : Int32) (x4 : Int32) (x5 : Int32) (x6 : Int32) (S : XS), K (.inr (.inl (x1, x2, x3, x4, x5, x6))) S → ∀ (H : Heap) (locs : List Loc), va_P (dC, dI) vwCl (wX q cI cT S) H → va_D A (wX q cI cT S) → va_S A s.heap H locs → ∀ ls : Array Slot, lv_has ls 7 [(0, .ref (q 48)), (1, .ref x1), (2, .int x2), (3, .int x3), (4, .int x4), (5, .int x5), (6, .int x6)] → W p l e (headSpec ww_X2_work_48 ({ frames := 3, cells := 0, slots := 0, locals := 87 } : Room)).room s m args below meth c H locs 0 0 (MQ below (va_Qi Post (atX dC dI q cI cT A) A) args s 0 0 A) (F0 m 67 ls [])) (hK2 : ∀ (x1 : Nat) (x2 : Int32) (x3 : Int32) (x4 : Int32) (x5 : Int32) (x6 : Int32) (S : XS), K (.inr (.inr (x1, x2, x3, x4, x5, x6))) S → ∀ (H : Heap) (locs : List Loc), va_P (dC, dI) vwCl (wX q cI cT S) H → va_D A (wX q cI cT S) → va_S A s.heap H locs → ∀ ls : Array Slot, lv_has ls 7 [(0, .ref (q 48)), (1, .ref x1), (2, .int x2), (3, .int x3), (4, .int x4), (5, .int x5), (6, .int x6)] → W p l e (headSpec ww_X2_work_48 ({ frames := 3, cells := 0, slots := 0, locals := 87 } : Room)).room s m args below meth c H locs 0 0 (MQ below (va_Qi Post (atX dC dI q cI cT A) A) args s 0 0 A) (F0 m 81 ls [])) (x1 : Nat) (x2 : Int32) (x3 : Int32) (x4 : Int32) (x5 : Int32) (x6 : Int32) (S : XS) (h : B_X2_work_48 Post K (.inr (.inl (x1, x2, x3, x4, x5, x6))) S) : ∀ (H : Heap) (locs : List Loc), va_P (dC, dI) vwCl (wX q cI cT S) H → va_D A (wX q cI cT S) → va_S A s.heap H locs → ∀ ls : Array Slot, lv_has ls 7 [(0, .ref (q 48)), (1, .ref x1), (2, .int x2), (3, .int x3), (4, .int x4), (5, .int x5), (6, .int x6)] → W p l e (headSpec ww_X2_work_48 ({ frames := 3, cells := 0, slots := 0, locals := 87 } : Room)).room s m args below meth c H locs 0 0 (MQ below (va_Qi Post (atX dC dI q cI cT A) A) args s 0 0 A) (F0 m 67 ls []) := by
  have hx := X.1
  have hb := X.2.1
  intro H locs hP hD hS ls hl
  have lk113 := X.2.2.2.2.1 (.fieldLink RX2 113 "BreathOnLoan$Judge" "top" "I") (inX 80 rfl)
  dsimp only [B_X2_work_48] at h
  refine lv_iload hx hb (dk DX2_work 35 rfl) (lv_at hl 4 rfl) ?_
  refine lv_iload hx hb (dk DX2_work 36 rfl) (lv_at hl 6 rfl) ?_
  refine lv_iconst (v := 1) hx hb (dk DX2_work 37 rfl) (by decide) ?_
  refine lv_isub hx hb (dk DX2_work 38 rfl) ?_
  refine va_mmax hx hb (X.2.2.1.trans hl.1.symm) X.2.2.2.1 (X.2.2.2.2.1 (.methodLink RX2 129 Lib.Math.max.name) (inX 103 rfl)) (X.2.2.2.2.1 (.static Lib.Math.max.name) (inX 104 rfl)) (X.2.2.2.2.1 (.initialized "java/lang/Math") (inX 21 rfl)) (X.2.2.2.2.1 (.code Lib.Math.max.name Lib.Math.max.code 2 (some .int)) (inX 105 rfl)) (Nat.le_of_ble_eq_true rfl) (Nat.le_of_ble_eq_true rfl) (Nat.zero_le _) (Nat.zero_le _) (dk DX2_work 39 rfl) ?_
  refine lv_topi (fun v20 ev20 => ?_)
  have h := h v20 ev20
  refine lv_istore (lv' := [(4, .int v20), (0, .ref (q 48)), (1, .ref x1), (2, .int x2), (3, .int x3), (5, .int x5), (6, .int x6)]) hx hb (dk DX2_work 40 rfl) hl (by decide) rfl (fun ls hl => ?_)
  refine lv_goto (tgt := 96) hx hb (dk DX2_work 41 rfl) (by decide) ?_
  obtain ⟨v21, ev21⟩ : ∃ y : Int32, y = v20 + 1 := ⟨_, rfl⟩
  have h := h v21 ev21
  refine lv_iinc (v := v21) (lv' := [(4, .int v21), (0, .ref (q 48)), (1, .ref x1), (2, .int x2), (3, .int x3), (5, .int x5), (6, .int x6)]) hx hb (dk DX2_work 49 rfl) hl (k := 0) rfl (by rw [ev21]; rfl) (by decide) rfl (fun ls hl => ?_)
  refine lv_goto (tgt := 18) hx hb (dk DX2_work 50 rfl) (by decide) ?_
  exact hK0 x1 x2 x3 v21 S h _ _ hP hD hS ls (lv_sub hl [1, 2, 3, 4, 0] rfl)
set_option maxHeartbeats 4000000 in
set_option maxRecDepth 100000 in
theorem h_X2_work_48_2 {p : Program} {l : Launch} {e : Env} {s : State} {m : MethodId} {below : List Frame} {meth : Method} {c : Code} {dC : Nat → ClassId} {dI : Nat → Nat → Nat} {q : Nat → Nat} {cI cT : ClassId} {en : Nat → Nat} {A : Nat → Prop} {args : Array Value} {Post : Int32 → XS → Prop} {K : Hd_X2_work_48 → XS → Prop} (X : XX p s m args c cX2_work 7 ww_X2_work_48 RX2 dC dI cI cT en A) (hr : meth.sig.returnType = (some .int)) (hlocks : meth.locks = false) (hK0 : ∀ (x1 : Nat) (x2 : Int32) (x3 : Int32) (x4 : Int32) (S : XS), K (.inl (x1, x2, x3, x4)) S → ∀ (H : Heap) (locs : List Loc), va_P (dC, dI) vwCl (wX q cI cT S) H → va_D A (wX q cI cT S) → va_S A s.heap H locs → ∀ ls : Array Slot, lv_has ls 7 [(0, .ref (q 48)), (1, .ref x1), (2, .int x2), (3, .int x3), (4, .int x4)] → W p l e (headSpec ww_X2_work_48 ({ frames := 3, cells := 0, slots := 0, locals := 87 } : Room)).room s m args below meth c H locs 0 0 (MQ below (va_Qi Post (atX dC dI q cI cT A) A) args s 0 0 A) (F0 m 18 ls [])) (hK1 : ∀ (x1 : Nat) (x2 : Int32) (x3 : Int32) (x4 : Int32) (x5 : Int32) (x6 : Int32) (S : XS), K (.inr (.inl (x1, x2, x3, x4, x5, x6))) S → ∀ (H : Heap) (locs : List Loc), va_P (dC, dI) vwCl (wX q cI cT S) H → va_D A (wX q cI cT S) → va_S A s.heap H locs → ∀ ls : Array Slot, lv_has ls 7 [(0, .ref (q 48)), (1, .ref x1), (2, .int x2), (3, .int x3), (4, .int x4), (5, .int x5), (6, .int x6)] → W p l e (headSpec ww_X2_work_48 ({ frames := 3, cells := 0, slots := 0, locals := 87 } : Room)).room s m args below meth c H locs 0 0 (MQ below (va_Qi Post (atX dC dI q cI cT A) A) args s 0 0 A) (F0 m 67 ls [])) (hK2 : ∀ (x1 : Nat) (x2 : Int32) (x3 : Int32) (x4 : Int32) (x5 : Int32) (x6 : Int32) (S : XS), K (.inr (.inr (x1, x2, x3, x4, x5, x6))) S → ∀ (H : Heap) (locs : List Loc), va_P (dC, dI) vwCl (wX q cI cT S) H → va_D A (wX q cI cT S) → va_S A s.heap H locs → ∀ ls : Array Slot, lv_has ls 7 [(0, .ref (q 48)), (1, .ref x1), (2, .int x2), (3, .int x3), (4, .int x4), (5, .int x5), (6, .int x6)] → W p l e (headSpec ww_X2_work_48 ({ frames := 3, cells := 0, slots := 0, locals := 87 } : Room)).room s m args below meth c H locs 0 0 (MQ below (va_Qi Post (atX dC dI q cI cT A) A) args s 0 0 A) (F0 m 81 ls [])) (x1 : Nat) (x2 : Int32) (x3 : Int32) (x4 : Int32) (x5 : Int32) (x6 : Int32) (S : XS) (h : B_X2_work_48 Post K (.inr (.inr (x1, x2, x3, x4, x5, x6))) S) : ∀ (H : Heap) (locs : List Loc), va_P (dC, dI) vwCl (wX q cI cT S) H → va_D A (wX q cI cT S) → va_S A s.heap H locs → ∀ ls : Array Slot, lv_has ls 7 [(0, .ref (q 48)), (1, .ref x1), (2, .int x2), (3, .int x3), (4, .int x4), (5, .int x5), (6, .int x6)] → W p l e (headSpec ww_X2_work_48 ({ frames := 3, cells := 0, slots := 0, locals := 87 } : Room)).room s m args below meth c H locs 0 0 (MQ below (va_Qi Post (atX dC dI q cI cT A) A) args s 0 0 A) (F0 m 81 ls []) := by
  have hx := X.1
  have hb := X.2.1
  intro H locs hP hD hS ls hl
  have lk113 := X.2.2.2.2.1 (.fieldLink RX2 113 "BreathOnLoan$Judge" "top" "I") (inX 80 rfl)
  dsimp only [B_X2_work_48] at h
  refine lv_iload hx hb (dk DX2_work 42 rfl) (lv_at hl 5 rfl) ?_
  refine lv_bipush (v := 63) hx hb (dk DX2_work 43 rfl) (by decide) ?_
  refine lv_icmp_eq (tgt := 96) hx hb (dk DX2_work 44 rfl) (by decide) (fun hc => ?_) (fun hc => ?_)
  · have h := h.1 hc
    obtain ⟨v22, ev22⟩ : ∃ y : Int32, y = x4 + 1 := ⟨_, rfl⟩
    have h := h v22 ev22
    refine lv_iinc (v := v22) (lv' := [(4, .int v22), (0, .ref (q 48)), (1, .ref x1), (2, .int x2), (3, .int x3), (5, .int x5), (6, .int x6)]) hx hb (dk DX2_work 49 rfl) hl (k := 4) rfl (by rw [ev22]; rfl) (by decide) rfl (fun ls hl => ?_)
    refine lv_goto (tgt := 18) hx hb (dk DX2_work 50 rfl) (by decide) ?_
    exact hK0 x1 x2 x3 v22 S h _ _ hP hD hS ls (lv_sub hl [1, 2, 3, 4, 0] rfl)
  · have h := h.2 hc
    refine lv_aload_n hx hb (dk DX2_work 45 rfl) rfl (lv_at hl 0 rfl) ?_
    refine lv_iload hx hb (dk DX2_work 46 rfl) (lv_at hl 5 rfl) ?_
    refine lv_iload hx hb (dk DX2_work 47 rfl) (lv_at hl 6 rfl) ?_
    refine cXv (As := [.int x5, .int x6]) (rest := []) X (m_X2_obey_48 (l := l) (dC := dC) (dI := dI) (q := q) (cI := cI) (cT := cT) (en := en) (sz := _) x5 x6 S h) (cwV 2 X.2.2.2.2.1 (gxV 115 116 117 95 102 rfl rfl rfl rfl rfl) rfl rfl rfl q_X2_obey_48 ⟨Nat.le_of_ble_eq_true rfl, Nat.le_of_ble_eq_true rfl⟩) (rX_48 X hP) hP hD hS rfl hl.1 rfl (Nat.le_of_ble_eq_true rfl) (dk DX2_work 48 rfl) (fun S23 H locs h hP hD hS => ?_)
    obtain ⟨v24, ev24⟩ : ∃ y : Int32, y = x4 + 1 := ⟨_, rfl⟩
    have h := h v24 ev24
    refine lv_iinc (v := v24) (lv' := [(4, .int v24), (0, .ref (q 48)), (1, .ref x1), (2, .int x2), (3, .int x3), (5, .int x5), (6, .int x6)]) hx hb (dk DX2_work 49 rfl) hl (k := 4) rfl (by rw [ev24]; rfl) (by decide) rfl (fun ls hl => ?_)
    refine lv_goto (tgt := 18) hx hb (dk DX2_work 50 rfl) (by decide) ?_
    exact hK0 x1 x2 x3 v24 S23 h _ _ hP hD hS ls (lv_sub hl [1, 2, 3, 4, 0] rfl)
set_option maxHeartbeats 4000000 in
set_option maxRecDepth 100000 in
theorem m_X2_work_48 {l : Launch} {dC : Nat → ClassId} {dI : Nat → Nat → Nat} {q : Nat → Nat} {cI cT : ClassId} {en : Nat → Nat} {sz : Nat} {Post : Int32 → XS → Prop} (a0 : Nat) (a1 : Int32) (S : XS) (h : VC_X2_work_48 Post a0 a1 S) : Met l yX2_work ww_X2_work_48 ({ frames := 3, cells := 0, slots := 0, locals := 87 } : Room) (va_Pc [.ref (q 48), .ref a0, .int a1] (preX dC dI q cI cT en S sz)) (va_Qi Post (atX dC dI q cI cT (va_A (wX q cI cT S) sz)) (va_A (wX q cI cT S) sz)) 0 0 (va_A (wX q cI cT S) sz) := by
  refine oX (cc := cX2_work) (maxL := 7) (ret := (some .int)) (Qc := fun A => va_Qi Post (atX dC dI q cI cT A) A) (own := RX2) (by decide) rfl (fun w h => List.mem_cons_of_mem _ (List.mem_append_right _ h)) rfl (Nat.le_of_ble_eq_true rfl) (fun p e s m below meth c A ls X hr hlocks hP hD hS hl => ?_)
  have hx := X.1
  have hb := X.2.1
  have hl : lv_has ls 7 [(0, .ref (q 48)), (1, .ref a0), (2, .int a1)] := hl
  have lk113 := X.2.2.2.2.1 (.fieldLink RX2 113 "BreathOnLoan$Judge" "top" "I") (inX 80 rfl)
  generalize hargs : ([.ref (q 48), .ref a0, .int a1] : List Value).toArray = args at X ⊢
  have h := h (fun hd S => match hd with | (.inl (x1, x2, x3, x4)) => ∀ (H : Heap) (locs : List Loc), va_P (dC, dI) vwCl (wX q cI cT S) H → va_D A (wX q cI cT S) → va_S A s.heap H locs → ∀ ls : Array Slot, lv_has ls 7 [(0, .ref (q 48)), (1, .ref x1), (2, .int x2), (3, .int x3), (4, .int x4)] → W p l e (headSpec ww_X2_work_48 ({ frames := 3, cells := 0, slots := 0, locals := 87 } : Room)).room s m args below meth c H locs 0 0 (MQ below (va_Qi Post (atX dC dI q cI cT A) A) args s 0 0 A) (F0 m 18 ls []) | (.inr (.inl (x1, x2, x3, x4, x5, x6))) => ∀ (H : Heap) (locs : List Loc), va_P (dC, dI) vwCl (wX q cI cT S) H → va_D A (wX q cI cT S) → va_S A s.heap H locs → ∀ ls : Array Slot, lv_has ls 7 [(0, .ref (q 48)), (1, .ref x1), (2, .int x2), (3, .int x3), (4, .int x4), (5, .int x5), (6, .int x6)] → W p l e (headSpec ww_X2_work_48 ({ frames := 3, cells := 0, slots := 0, locals := 87 } : Room)).room s m args below meth c H locs 0 0 (MQ below (va_Qi Post (atX dC dI q cI cT A) A) args s 0 0 A) (F0 m 67 ls []) | (.inr (.inr (x1, x2, x3, x4, x5, x6))) => ∀ (H : Heap) (locs : List Loc), va_P (dC, dI) vwCl (wX q cI cT S) H → va_D A (wX q cI cT S) → va_S A s.heap H locs → ∀ ls : Array Slot, lv_has ls 7 [(0, .ref (q 48)), (1, .ref x1), (2, .int x2), (3, .int x3), (4, .int x4), (5, .int x5), (6, .int x6)] → W p l e (headSpec ww_X2_work_48 ({ frames := 3, cells := 0, slots := 0, locals := 87 } : Room)).room s m args below meth c H locs 0 0 (MQ below (va_Qi Post (atX dC dI q cI cT A) A) args s 0 0 A) (F0 m 81 ls [])) ?_
  · skip
    refine lv_aload_n hx hb (dk DX2_work 0 rfl) rfl (lv_at hl 0 rfl) ?_
    refine lv_iconst (v := 0) hx hb (dk DX2_work 1 rfl) (by decide) ?_
    refine pX_48_2 X hP hD hS lk113 (dk DX2_work 2 rfl) (fun S1 eS1 H locs hP hD hS => ?_)
    have h := h S1 eS1
    refine lv_aload_n hx hb (dk DX2_work 3 rfl) rfl (lv_at hl 1 rfl) ?_
    refine lv_iload_n hx hb (dk DX2_work 4 rfl) rfl (lv_at hl 2 rfl) ?_
    obtain ⟨t2, ht2, h⟩ := h
    refine cXi (As := [.int a1]) (rest := []) X (m_X9_behind_x (l := l) (dC := dC) (dI := dI) (q := q) (cI := cI) (cT := cT) (en := en) (sz := _) a0 a1 S1 h) (cwV 1 X.2.2.2.2.1 (gxV 106 107 108 71 72 rfl rfl rfl rfl rfl) rfl rfl rfl q_X9_behind_x ⟨Nat.le_of_ble_eq_true rfl, Nat.le_of_ble_eq_true rfl⟩) (rT X hP ht2) hP hD hS rfl hl.1 rfl (Nat.le_of_ble_eq_true rfl) (dk DX2_work 5 rfl) (fun r4 S3 H locs h hP hD hS => ?_)
    refine lv_istore_n (lv' := [(3, .int r4), (0, .ref (q 48)), (1, .ref a0), (2, .int a1)]) hx hb (dk DX2_work 6 rfl) rfl hl (by decide) rfl (fun ls hl => ?_)
    refine lv_aload_n hx hb (dk DX2_work 7 rfl) rfl (lv_at hl 2 rfl) ?_
    refine lv_iload_n hx hb (dk DX2_work 8 rfl) rfl (lv_at hl 3 rfl) ?_
    obtain ⟨t5, ht5, h⟩ := h
    refine cXi (As := [.int a1]) (rest := []) X (m_X9_firstOf_x (l := l) (dC := dC) (dI := dI) (q := q) (cI := cI) (cT := cT) (en := en) (sz := _) a0 a1 S3 h) (cwV 1 X.2.2.2.2.1 (gxV 109 110 111 71 77 rfl rfl rfl rfl rfl) rfl rfl rfl q_X9_firstOf_x ⟨Nat.le_of_ble_eq_true rfl, Nat.le_of_ble_eq_true rfl⟩) (rT X hP ht5) hP hD hS rfl hl.1 rfl (Nat.le_of_ble_eq_true rfl) (dk DX2_work 9 rfl) (fun r7 S6 H locs h hP hD hS => ?_)
    refine lv_istore (lv' := [(4, .int r7), (3, .int r4), (0, .ref (q 48)), (1, .ref a0), (2, .int a1)]) hx hb (dk DX2_work 10 rfl) hl (by decide) rfl (fun ls hl => ?_)
    exact h _ _ hP hD hS ls (lv_sub hl [2, 3, 4, 1, 0] rfl)
  · rintro (⟨x1, x2, x3, x4⟩ | ⟨x1, x2, x3, x4, x5, x6⟩ | ⟨x1, x2, x3, x4, x5, x6⟩) S hB
    · exact h_X2_work_48_0 X hr hlocks (hK0 := fun _ _ _ _ _ h => h) (hK1 := fun _ _ _ _ _ _ _ h => h) (hK2 := fun _ _ _ _ _ _ _ h => h) x1 x2 x3 x4 S hB
    · exact h_X2_work_48_1 X hr hlocks (hK0 := fun _ _ _ _ _ h => h) (hK1 := fun _ _ _ _ _ _ _ h => h) (hK2 := fun _ _ _ _ _ _ _ h => h) x1 x2 x3 x4 x5 x6 S hB
    · exact h_X2_work_48_2 X hr hlocks (hK0 := fun _ _ _ _ _ h => h) (hK1 := fun _ _ _ _ _ _ _ h => h) (hK2 := fun _ _ _ _ _ _ _ h => h) x1 x2 x3 x4 x5 x6 S hB

def ww_X2_smokeIn_48_1 : List Cond := .code yX2_smokeIn cX2_smokeIn 4 (some .int) :: (WdX ++ WsX)
theorem q_X2_smokeIn_48_1 : yX2_smokeIn.cls = RX2 ∧ yX2_smokeIn.cls ≠ "java/lang/invoke/MethodHandle" ∧ yX2_smokeIn.cls ≠ "java/lang/invoke/VarHandle" ∧ (parseMethodDescriptor yX2_smokeIn.desc).map (fun d => d.parameters.length) = some 2 := by decide +kernel
def VC_X2_smokeIn_48_1 (Post : Int32 → XS → Prop) (a1 : Int32) (S : XS) : Prop := VC_X2_lawText_1 (fun r2 S1 => ((r2 = none → Post 40 S1) ∧ ∀ a3 : Nat, r2 = some a3 → vp_in (0 : Int32) 11 ∧ ∀ S4 : XS, S4 = xF S1 49 (upd (S1.2.1 49) (0 : Int32).toNatClampNeg a1) → VC_X2_work_48 (fun r6 S5 => VC_X11_clamp (fun r7 => Post r7 S5) (r6.toInt64) 0 40) a3 0 S4)) 0 S
set_option maxHeartbeats 4000000 in
set_option maxRecDepth 100000 in
theorem m_X2_smokeIn_48_1 {l : Launch} {dC : Nat → ClassId} {dI : Nat → Nat → Nat} {q : Nat → Nat} {cI cT : ClassId} {en : Nat → Nat} {sz : Nat} {Post : Int32 → XS → Prop} (a1 : Int32) (S : XS) (h : VC_X2_smokeIn_48_1 Post a1 S) : Met l yX2_smokeIn ww_X2_smokeIn_48_1 ({ frames := 4, cells := 0, slots := 0, locals := 113 } : Room) (va_Pc [.ref (q 48), .ref (q 1), .int a1] (preX dC dI q cI cT en S sz)) (va_Qi Post (atX dC dI q cI cT (va_A (wX q cI cT S) sz)) (va_A (wX q cI cT S) sz)) 0 0 (va_A (wX q cI cT S) sz) := by
  refine oX (cc := cX2_smokeIn) (maxL := 4) (ret := (some .int)) (Qc := fun A => va_Qi Post (atX dC dI q cI cT A) A) (own := RX2) (by decide) rfl (fun w h => List.mem_cons_of_mem _ (List.mem_append_right _ h)) rfl (Nat.le_of_ble_eq_true rfl) (fun p e s m below meth c A ls X hr hlocks hP hD hS hl => ?_)
  have hx := X.1
  have hb := X.2.1
  have hl : lv_has ls 4 [(0, .ref (q 48)), (1, .ref (q 1)), (2, .int a1)] := hl
  have lk9 := X.2.2.2.2.1 (.fieldLink RX2 9 "BreathOnLoan$Judge" "names" "[I") (inX 55 rfl)
  dsimp only [VC_X2_smokeIn_48_1] at h
  refine lv_aload_n hx hb (dk DX2_smokeIn 0 rfl) rfl (lv_at hl 1 rfl) ?_
  refine lv_iconst (v := 0) hx hb (dk DX2_smokeIn 1 rfl) (by decide) ?_
  refine cXsq (As := [.ref (q 1), .int 0]) (rest := []) X (m_X2_lawText_1 (l := l) (dC := dC) (dI := dI) (q := q) (cI := cI) (cT := cT) (en := en) (sz := _) 0 S h) (va_cwS 2 X.2.2.2.2.1 (gxS 119 120 95 62 rfl rfl rfl rfl) rfl rfl rfl q_X2_lawText_1 ⟨Nat.le_of_ble_eq_true rfl, Nat.le_of_ble_eq_true rfl⟩) hP hD hS rfl hl.1 rfl (Nat.le_of_ble_eq_true rfl) (dk DX2_smokeIn 2 rfl) (fun r2 S1 H locs h hP hD hS => ?_)
  rcases r2 with _ | a3
  · have h := h.1 rfl
    refine lv_astore_nN (lv' := [(3, .null), (0, .ref (q 48)), (1, .ref (q 1)), (2, .int a1)]) hx hb (dk DX2_smokeIn 3 rfl) rfl hl (by decide) rfl (fun ls hl => ?_)
    refine lv_aload_nN hx hb (dk DX2_smokeIn 4 rfl) rfl (lv_at hl 0 rfl) ?_
    refine lv_ifnonnullN hx hb (dk DX2_smokeIn 5 rfl) ?_
    refine lv_bipush (v := 40) hx hb (dk DX2_smokeIn 6 rfl) (by decide) ?_
    exact W.iret (v := 40) hx hb hr (fun t ht hW => ⟨⟨_, _, rfl, h, by rw [ht]; exact hP, va_K.moved hW.alike X.2.2.2.2.2.2.1, hD⟩, hS.F ht⟩) hS.2.2 (dk DX2_smokeIn 7 rfl)
  · have h := h.2 a3 rfl
    refine lv_astore_n (lv' := [(3, .ref a3), (0, .ref (q 48)), (1, .ref (q 1)), (2, .int a1)]) hx hb (dk DX2_smokeIn 3 rfl) rfl hl (by decide) rfl (fun ls hl => ?_)
    refine lv_aload_n hx hb (dk DX2_smokeIn 4 rfl) rfl (lv_at hl 0 rfl) ?_
    refine lv_ifnonnull (tgt := 13) hx hb (dk DX2_smokeIn 5 rfl) (by decide) ?_
    refine lv_aload_n hx hb (dk DX2_smokeIn 8 rfl) rfl (lv_at hl 1 rfl) ?_
    refine gX_48 X hP 0 (by decide) rfl lk9 (dk DX2_smokeIn 9 rfl) ?_
    refine lv_iconst (v := 0) hx hb (dk DX2_smokeIn 10 rfl) (by decide) ?_
    refine lv_iload_n hx hb (dk DX2_smokeIn 11 rfl) rfl (lv_at hl 3 rfl) ?_
    obtain ⟨hin, h⟩ := h
    refine stX_49 X hP hD hS hin (dk DX2_smokeIn 12 rfl) (fun S4 eS4 H locs hP hD hS => ?_)
    have h := h S4 eS4
    refine lv_aload_n hx hb (dk DX2_smokeIn 13 rfl) rfl (lv_at hl 1 rfl) ?_
    refine lv_aload_n hx hb (dk DX2_smokeIn 14 rfl) rfl (lv_at hl 0 rfl) ?_
    refine lv_iconst (v := 0) hx hb (dk DX2_smokeIn 15 rfl) (by decide) ?_
    refine cXi (As := [.ref a3, .int 0]) (rest := []) X (m_X2_work_48 (l := l) (dC := dC) (dI := dI) (q := q) (cI := cI) (cT := cT) (en := en) (sz := _) a3 0 S4 h) (cwV 2 X.2.2.2.2.1 (gxV 121 122 123 95 118 rfl rfl rfl rfl rfl) rfl rfl rfl q_X2_work_48 ⟨Nat.le_of_ble_eq_true rfl, Nat.le_of_ble_eq_true rfl⟩) (rX_48 X hP) hP hD hS rfl hl.1 rfl (Nat.le_of_ble_eq_true rfl) (dk DX2_smokeIn 16 rfl) (fun r6 S5 H locs h hP hD hS => ?_)
    refine lv_i2l hx hb (dk DX2_smokeIn 17 rfl) rfl ?_
    refine lv_iconst (v := 0) hx hb (dk DX2_smokeIn 18 rfl) (by decide) ?_
    refine lv_bipush (v := 40) hx hb (dk DX2_smokeIn 19 rfl) (by decide) ?_
    refine cNi (As := [.long (r6.toInt64), .int 0, .int 40]) (rest := []) ⟨X.1, X.2.1, X.2.2.1, X.2.2.2.1, X.2.2.2.2.1⟩ (m_X11_clamp (l := l) (r6.toInt64) 0 40 h) ⟨va_cnB (host := "BreathOnLoan") 3 X.2.2.2.2.1 (gxB (List.mem_of_getElem? (i := 83) rfl)) rfl rfl rfl (X.2.2.2.2.2.2.2.2.1.1 _ (List.mem_of_getElem? (i := 1) rfl)) (X.2.2.2.2.1 (.initialized RX11) (inX 16 rfl)) q_X11_clamp ⟨Nat.le_of_ble_eq_true rfl, Nat.le_of_ble_eq_true rfl⟩, X.2.2.2.2.1 (.static yX11_clamp) (inX 101 rfl), trivial⟩ rfl hl.1 rfl (Nat.le_of_ble_eq_true rfl) (dk DX2_smokeIn 20 rfl) (fun r7 h => ?_)
    exact W.iret (v := r7) hx hb hr (fun t ht hW => ⟨⟨_, _, rfl, h, by rw [ht]; exact hP, va_K.moved hW.alike X.2.2.2.2.2.2.1, hD⟩, hS.F ht⟩) hS.2.2 (dk DX2_smokeIn 21 rfl)

def ww_X2_costOf_48_1 : List Cond := .code yX2_costOf cX2_costOf 5 (some .int) :: (WdX ++ WsX)
theorem q_X2_costOf_48_1 : yX2_costOf.cls = RX2 ∧ yX2_costOf.cls ≠ "java/lang/invoke/MethodHandle" ∧ yX2_costOf.cls ≠ "java/lang/invoke/VarHandle" ∧ (parseMethodDescriptor yX2_costOf.desc).map (fun d => d.parameters.length) = some 3 := by decide +kernel
def VC_X2_costOf_48_1 (Post : Int32 → XS → Prop) (a1 : Int32) (a2 : Int32) (S : XS) : Prop := VC_X2_lawText_1 (fun r2 S1 => ((r2 = none → Post 1 S1) ∧ ∀ a3 : Nat, r2 = some a3 → vp_in (0 : Int32) 11 ∧ ∀ S4 : XS, S4 = xF S1 49 (upd (S1.2.1 49) (0 : Int32).toNatClampNeg a2) → VC_X2_nameBlower_48_1 (fun S5 => VC_X2_work_48 (fun r7 S6 => VC_X11_clamp (fun r8 => Post r8 S6) (r7.toInt64) 0 99) a3 1 S5) a1 S4)) 1 S
set_option maxHeartbeats 4000000 in
set_option maxRecDepth 100000 in
theorem m_X2_costOf_48_1 {l : Launch} {dC : Nat → ClassId} {dI : Nat → Nat → Nat} {q : Nat → Nat} {cI cT : ClassId} {en : Nat → Nat} {sz : Nat} {Post : Int32 → XS → Prop} (a1 : Int32) (a2 : Int32) (S : XS) (h : VC_X2_costOf_48_1 Post a1 a2 S) : Met l yX2_costOf ww_X2_costOf_48_1 ({ frames := 4, cells := 0, slots := 0, locals := 113 } : Room) (va_Pc [.ref (q 48), .ref (q 1), .int a1, .int a2] (preX dC dI q cI cT en S sz)) (va_Qi Post (atX dC dI q cI cT (va_A (wX q cI cT S) sz)) (va_A (wX q cI cT S) sz)) 0 0 (va_A (wX q cI cT S) sz) := by
  refine oX (cc := cX2_costOf) (maxL := 5) (ret := (some .int)) (Qc := fun A => va_Qi Post (atX dC dI q cI cT A) A) (own := RX2) (by decide) rfl (fun w h => List.mem_cons_of_mem _ (List.mem_append_right _ h)) rfl (Nat.le_of_ble_eq_true rfl) (fun p e s m below meth c A ls X hr hlocks hP hD hS hl => ?_)
  have hx := X.1
  have hb := X.2.1
  have hl : lv_has ls 5 [(0, .ref (q 48)), (1, .ref (q 1)), (2, .int a1), (3, .int a2)] := hl
  have lk9 := X.2.2.2.2.1 (.fieldLink RX2 9 "BreathOnLoan$Judge" "names" "[I") (inX 55 rfl)
  dsimp only [VC_X2_costOf_48_1] at h
  refine lv_aload_n hx hb (dk DX2_costOf 0 rfl) rfl (lv_at hl 1 rfl) ?_
  refine lv_iconst (v := 1) hx hb (dk DX2_costOf 1 rfl) (by decide) ?_
  refine cXsq (As := [.ref (q 1), .int 1]) (rest := []) X (m_X2_lawText_1 (l := l) (dC := dC) (dI := dI) (q := q) (cI := cI) (cT := cT) (en := en) (sz := _) 1 S h) (va_cwS 2 X.2.2.2.2.1 (gxS 119 120 95 62 rfl rfl rfl rfl) rfl rfl rfl q_X2_lawText_1 ⟨Nat.le_of_ble_eq_true rfl, Nat.le_of_ble_eq_true rfl⟩) hP hD hS rfl hl.1 rfl (Nat.le_of_ble_eq_true rfl) (dk DX2_costOf 2 rfl) (fun r2 S1 H locs h hP hD hS => ?_)
  rcases r2 with _ | a3
  · have h := h.1 rfl
    refine lv_astoreN (lv' := [(4, .null), (0, .ref (q 48)), (1, .ref (q 1)), (2, .int a1), (3, .int a2)]) hx hb (dk DX2_costOf 3 rfl) hl (by decide) rfl (fun ls hl => ?_)
    refine lv_aloadN hx hb (dk DX2_costOf 4 rfl) (lv_at hl 0 rfl) ?_
    refine lv_ifnonnullN hx hb (dk DX2_costOf 5 rfl) ?_
    refine lv_iconst (v := 1) hx hb (dk DX2_costOf 6 rfl) (by decide) ?_
    exact W.iret (v := 1) hx hb hr (fun t ht hW => ⟨⟨_, _, rfl, h, by rw [ht]; exact hP, va_K.moved hW.alike X.2.2.2.2.2.2.1, hD⟩, hS.F ht⟩) hS.2.2 (dk DX2_costOf 7 rfl)
  · have h := h.2 a3 rfl
    refine lv_astore (lv' := [(4, .ref a3), (0, .ref (q 48)), (1, .ref (q 1)), (2, .int a1), (3, .int a2)]) hx hb (dk DX2_costOf 3 rfl) hl (by decide) rfl (fun ls hl => ?_)
    refine lv_aload hx hb (dk DX2_costOf 4 rfl) (lv_at hl 0 rfl) ?_
    refine lv_ifnonnull (tgt := 14) hx hb (dk DX2_costOf 5 rfl) (by decide) ?_
    refine lv_aload_n hx hb (dk DX2_costOf 8 rfl) rfl (lv_at hl 1 rfl) ?_
    refine gX_48 X hP 0 (by decide) rfl lk9 (dk DX2_costOf 9 rfl) ?_
    refine lv_iconst (v := 0) hx hb (dk DX2_costOf 10 rfl) (by decide) ?_
    refine lv_iload_n hx hb (dk DX2_costOf 11 rfl) rfl (lv_at hl 4 rfl) ?_
    obtain ⟨hin, h⟩ := h
    refine stX_49 X hP hD hS hin (dk DX2_costOf 12 rfl) (fun S4 eS4 H locs hP hD hS => ?_)
    have h := h S4 eS4
    refine lv_aload_n hx hb (dk DX2_costOf 13 rfl) rfl (lv_at hl 1 rfl) ?_
    refine lv_aload_n hx hb (dk DX2_costOf 14 rfl) rfl (lv_at hl 2 rfl) ?_
    refine lv_iload_n hx hb (dk DX2_costOf 15 rfl) rfl (lv_at hl 3 rfl) ?_
    refine cXv (As := [.ref (q 1), .int a1]) (rest := []) X (m_X2_nameBlower_48_1 (l := l) (dC := dC) (dI := dI) (q := q) (cI := cI) (cT := cT) (en := en) (sz := _) a1 S4 h) (cwV 2 X.2.2.2.2.1 (gxV 131 132 133 95 125 rfl rfl rfl rfl rfl) rfl rfl rfl q_X2_nameBlower_48_1 ⟨Nat.le_of_ble_eq_true rfl, Nat.le_of_ble_eq_true rfl⟩) (rX_48 X hP) hP hD hS rfl hl.1 rfl (Nat.le_of_ble_eq_true rfl) (dk DX2_costOf 16 rfl) (fun S5 H locs h hP hD hS => ?_)
    refine lv_aload_n hx hb (dk DX2_costOf 17 rfl) rfl (lv_at hl 1 rfl) ?_
    refine lv_aload hx hb (dk DX2_costOf 18 rfl) (lv_at hl 0 rfl) ?_
    refine lv_iconst (v := 1) hx hb (dk DX2_costOf 19 rfl) (by decide) ?_
    refine cXi (As := [.ref a3, .int 1]) (rest := []) X (m_X2_work_48 (l := l) (dC := dC) (dI := dI) (q := q) (cI := cI) (cT := cT) (en := en) (sz := _) a3 1 S5 h) (cwV 2 X.2.2.2.2.1 (gxV 121 122 123 95 118 rfl rfl rfl rfl rfl) rfl rfl rfl q_X2_work_48 ⟨Nat.le_of_ble_eq_true rfl, Nat.le_of_ble_eq_true rfl⟩) (rX_48 X hP) hP hD hS rfl hl.1 rfl (Nat.le_of_ble_eq_true rfl) (dk DX2_costOf 20 rfl) (fun r7 S6 H locs h hP hD hS => ?_)
    refine lv_i2l hx hb (dk DX2_costOf 21 rfl) rfl ?_
    refine lv_iconst (v := 0) hx hb (dk DX2_costOf 22 rfl) (by decide) ?_
    refine lv_bipush (v := 99) hx hb (dk DX2_costOf 23 rfl) (by decide) ?_
    refine cNi (As := [.long (r7.toInt64), .int 0, .int 99]) (rest := []) ⟨X.1, X.2.1, X.2.2.1, X.2.2.2.1, X.2.2.2.2.1⟩ (m_X11_clamp (l := l) (r7.toInt64) 0 99 h) ⟨va_cnB (host := "BreathOnLoan") 3 X.2.2.2.2.1 (gxB (List.mem_of_getElem? (i := 83) rfl)) rfl rfl rfl (X.2.2.2.2.2.2.2.2.1.1 _ (List.mem_of_getElem? (i := 1) rfl)) (X.2.2.2.2.1 (.initialized RX11) (inX 16 rfl)) q_X11_clamp ⟨Nat.le_of_ble_eq_true rfl, Nat.le_of_ble_eq_true rfl⟩, X.2.2.2.2.1 (.static yX11_clamp) (inX 101 rfl), trivial⟩ rfl hl.1 rfl (Nat.le_of_ble_eq_true rfl) (dk DX2_costOf 24 rfl) (fun r8 h => ?_)
    exact W.iret (v := r8) hx hb hr (fun t ht hW => ⟨⟨_, _, rfl, h, by rw [ht]; exact hP, va_K.moved hW.alike X.2.2.2.2.2.2.1, hD⟩, hS.F ht⟩) hS.2.2 (dk DX2_costOf 25 rfl)

def ww_X2_brittleOf_48_1 : List Cond := .code yX2_brittleOf cX2_brittleOf 5 (some .int) :: (WdX ++ WsX)
theorem q_X2_brittleOf_48_1 : yX2_brittleOf.cls = RX2 ∧ yX2_brittleOf.cls ≠ "java/lang/invoke/MethodHandle" ∧ yX2_brittleOf.cls ≠ "java/lang/invoke/VarHandle" ∧ (parseMethodDescriptor yX2_brittleOf.desc).map (fun d => d.parameters.length) = some 2 := by decide +kernel
def VC_X2_brittleOf_48_1 (Post : Int32 → XS → Prop) (a1 : Int32) (S : XS) : Prop := VC_X2_lawText_1 (fun r2 S1 => ((r2 = none → Post 0 S1) ∧ ∀ a3 : Nat, r2 = some a3 → VC_X0_givers_11 (fun r5 S4 => ∀ v6 : Int32, v6 = (S4.1 352) → vp_in (0 : Int32) 11 ∧ ∀ S7 : XS, S7 = xF S4 49 (upd (S4.2.1 49) (0 : Int32).toNatClampNeg v6) → VC_X1_quarrelsIn_2 (fun r9 S8 => vp_in (9 : Int32) 11 ∧ ∀ S10 : XS, S10 = xF S8 49 (upd (S8.2.1 49) (9 : Int32).toNatClampNeg r9) → VC_J6_bitCount_0f7a4 (fun r11 => vp_in (10 : Int32) 11 ∧ ∀ S12 : XS, S12 = xF S10 49 (upd (S10.2.1 49) (10 : Int32).toNatClampNeg r11) → VC_X2_nameKind_48_1 (fun S13 => VC_X2_work_48 (fun r15 S14 => VC_X11_clamp (fun r16 => Post r16 S14) (r15.toInt64) 0 10) a3 2 S13) a1 S12) r5) r5 S7) a1 S1)) 2 S
set_option maxHeartbeats 4000000 in
set_option maxRecDepth 100000 in
theorem m_X2_brittleOf_48_1 {l : Launch} {dC : Nat → ClassId} {dI : Nat → Nat → Nat} {q : Nat → Nat} {cI cT : ClassId} {en : Nat → Nat} {sz : Nat} {Post : Int32 → XS → Prop} (a1 : Int32) (S : XS) (h : VC_X2_brittleOf_48_1 Post a1 S) : Met l yX2_brittleOf ww_X2_brittleOf_48_1 ({ frames := 4, cells := 0, slots := 0, locals := 113 } : Room) (va_Pc [.ref (q 48), .ref (q 1), .int a1] (preX dC dI q cI cT en S sz)) (va_Qi Post (atX dC dI q cI cT (va_A (wX q cI cT S) sz)) (va_A (wX q cI cT S) sz)) 0 0 (va_A (wX q cI cT S) sz) := by
  refine oX (cc := cX2_brittleOf) (maxL := 5) (ret := (some .int)) (Qc := fun A => va_Qi Post (atX dC dI q cI cT A) A) (own := RX2) (by decide) rfl (fun w h => List.mem_cons_of_mem _ (List.mem_append_right _ h)) rfl (Nat.le_of_ble_eq_true rfl) (fun p e s m below meth c A ls X hr hlocks hP hD hS hl => ?_)
  have hx := X.1
  have hb := X.2.1
  have hl : lv_has ls 5 [(0, .ref (q 48)), (1, .ref (q 1)), (2, .int a1)] := hl
  have lk34 := X.2.2.2.2.1 (.fieldLink RX2 34 "BreathOnLoan$State" "bench" "LBreathOnLoan$Bench;") (inX 138 rfl)
  have lk9 := X.2.2.2.2.1 (.fieldLink RX2 9 "BreathOnLoan$Judge" "names" "[I") (inX 55 rfl)
  have lk46 := X.2.2.2.2.1 (.fieldLink RX2 46 "BreathOnLoan$Bench" "hour" "I") (inX 151 rfl)
  have lk50 := X.2.2.2.2.1 (.fieldLink RX2 50 "BreathOnLoan$State" "crew" "LBreathOnLoan$Crew;") (inX 126 rfl)
  dsimp only [VC_X2_brittleOf_48_1] at h
  refine lv_aload_n hx hb (dk DX2_brittleOf 0 rfl) rfl (lv_at hl 1 rfl) ?_
  refine lv_iconst (v := 2) hx hb (dk DX2_brittleOf 1 rfl) (by decide) ?_
  refine cXsq (As := [.ref (q 1), .int 2]) (rest := []) X (m_X2_lawText_1 (l := l) (dC := dC) (dI := dI) (q := q) (cI := cI) (cT := cT) (en := en) (sz := _) 2 S h) (va_cwS 2 X.2.2.2.2.1 (gxS 119 120 95 62 rfl rfl rfl rfl) rfl rfl rfl q_X2_lawText_1 ⟨Nat.le_of_ble_eq_true rfl, Nat.le_of_ble_eq_true rfl⟩) hP hD hS rfl hl.1 rfl (Nat.le_of_ble_eq_true rfl) (dk DX2_brittleOf 2 rfl) (fun r2 S1 H locs h hP hD hS => ?_)
  rcases r2 with _ | a3
  · have h := h.1 rfl
    refine lv_astore_nN (lv' := [(3, .null), (0, .ref (q 48)), (1, .ref (q 1)), (2, .int a1)]) hx hb (dk DX2_brittleOf 3 rfl) rfl hl (by decide) rfl (fun ls hl => ?_)
    refine lv_aload_nN hx hb (dk DX2_brittleOf 4 rfl) rfl (lv_at hl 0 rfl) ?_
    refine lv_ifnonnullN hx hb (dk DX2_brittleOf 5 rfl) ?_
    refine lv_iconst (v := 0) hx hb (dk DX2_brittleOf 6 rfl) (by decide) ?_
    exact W.iret (v := 0) hx hb hr (fun t ht hW => ⟨⟨_, _, rfl, h, by rw [ht]; exact hP, va_K.moved hW.alike X.2.2.2.2.2.2.1, hD⟩, hS.F ht⟩) hS.2.2 (dk DX2_brittleOf 7 rfl)
  · have h := h.2 a3 rfl
    refine lv_astore_n (lv' := [(3, .ref a3), (0, .ref (q 48)), (1, .ref (q 1)), (2, .int a1)]) hx hb (dk DX2_brittleOf 3 rfl) rfl hl (by decide) rfl (fun ls hl => ?_)
    refine lv_aload_n hx hb (dk DX2_brittleOf 4 rfl) rfl (lv_at hl 0 rfl) ?_
    refine lv_ifnonnull (tgt := 12) hx hb (dk DX2_brittleOf 5 rfl) (by decide) ?_
    refine lv_aload_n hx hb (dk DX2_brittleOf 8 rfl) rfl (lv_at hl 2 rfl) ?_
    refine gX_1 X hP 2 (by decide) rfl lk34 (dk DX2_brittleOf 9 rfl) ?_
    refine lv_iload_n hx hb (dk DX2_brittleOf 10 rfl) rfl (lv_at hl 3 rfl) ?_
    refine cXi (As := [.int a1]) (rest := []) X (m_X0_givers_11 (l := l) (dC := dC) (dI := dI) (q := q) (cI := cI) (cT := cT) (en := en) (sz := _) a1 S1 h) (cwV 1 X.2.2.2.2.1 (gxV 152 153 154 146 17 rfl rfl rfl rfl rfl) rfl rfl rfl q_X0_givers_11 ⟨Nat.le_of_ble_eq_true rfl, Nat.le_of_ble_eq_true rfl⟩) (rX_11 X hP) hP hD hS rfl hl.1 rfl (Nat.le_of_ble_eq_true rfl) (dk DX2_brittleOf 11 rfl) (fun r5 S4 H locs h hP hD hS => ?_)
    refine lv_istore (lv' := [(4, .int r5), (3, .ref a3), (0, .ref (q 48)), (1, .ref (q 1)), (2, .int a1)]) hx hb (dk DX2_brittleOf 12 rfl) hl (by decide) rfl (fun ls hl => ?_)
    refine lv_aload_n hx hb (dk DX2_brittleOf 13 rfl) rfl (lv_at hl 2 rfl) ?_
    refine gX_48 X hP 0 (by decide) rfl lk9 (dk DX2_brittleOf 14 rfl) ?_
    refine lv_iconst (v := 0) hx hb (dk DX2_brittleOf 15 rfl) (by decide) ?_
    refine lv_aload_n hx hb (dk DX2_brittleOf 16 rfl) rfl (lv_at hl 3 rfl) ?_
    refine gX_1 X hP 2 (by decide) rfl lk34 (dk DX2_brittleOf 17 rfl) ?_
    refine gX_11 X hP 0 (by decide) rfl lk46 (dk DX2_brittleOf 18 rfl) ?_
    refine lv_topi (fun v6 ev6 => ?_)
    have h := h v6 ev6
    obtain ⟨hin, h⟩ := h
    refine stX_49 X hP hD hS hin (dk DX2_brittleOf 19 rfl) (fun S7 eS7 H locs hP hD hS => ?_)
    have h := h S7 eS7
    refine lv_aload_n hx hb (dk DX2_brittleOf 20 rfl) rfl (lv_at hl 2 rfl) ?_
    refine gX_48 X hP 0 (by decide) rfl lk9 (dk DX2_brittleOf 21 rfl) ?_
    refine lv_bipush (v := 9) hx hb (dk DX2_brittleOf 22 rfl) (by decide) ?_
    refine lv_aload_n hx hb (dk DX2_brittleOf 23 rfl) rfl (lv_at hl 3 rfl) ?_
    refine gX_1 X hP 0 (by decide) rfl lk50 (dk DX2_brittleOf 24 rfl) ?_
    refine lv_iload hx hb (dk DX2_brittleOf 25 rfl) (lv_at hl 0 rfl) ?_
    refine cXi (As := [.int r5]) (rest := [.int 9, .ref (q 49)]) X (m_X1_quarrelsIn_2 (l := l) (dC := dC) (dI := dI) (q := q) (cI := cI) (cT := cT) (en := en) (sz := _) r5 S7 h) (cwV 1 X.2.2.2.2.1 (gxV 155 156 157 42 48 rfl rfl rfl rfl rfl) rfl rfl rfl q_X1_quarrelsIn_2 ⟨Nat.le_of_ble_eq_true rfl, Nat.le_of_ble_eq_true rfl⟩) (rX_2 X hP) hP hD hS rfl hl.1 rfl (Nat.le_of_ble_eq_true rfl) (dk DX2_brittleOf 26 rfl) (fun r9 S8 H locs h hP hD hS => ?_)
    obtain ⟨hin, h⟩ := h
    refine stX_49 X hP hD hS hin (dk DX2_brittleOf 27 rfl) (fun S10 eS10 H locs hP hD hS => ?_)
    have h := h S10 eS10
    refine lv_aload_n hx hb (dk DX2_brittleOf 28 rfl) rfl (lv_at hl 2 rfl) ?_
    refine gX_48 X hP 0 (by decide) rfl lk9 (dk DX2_brittleOf 29 rfl) ?_
    refine lv_bipush (v := 10) hx hb (dk DX2_brittleOf 30 rfl) (by decide) ?_
    refine lv_iload hx hb (dk DX2_brittleOf 31 rfl) (lv_at hl 0 rfl) ?_
    refine cSi (As := [.int r5]) (rest := [.int 10, .ref (q 49)]) ⟨X.1, X.2.1, X.2.2.1, X.2.2.2.1, X.2.2.2.2.1⟩ (m_J6_bitCount_0f7a4 (l := l) r5 h) (va_cwS 1 X.2.2.2.2.1 (gxS 158 50 51 44 rfl rfl rfl rfl) rfl rfl rfl q_J6_bitCount_0f7a4 ⟨Nat.le_of_ble_eq_true rfl, Nat.le_of_ble_eq_true rfl⟩) rfl hl.1 rfl (Nat.le_of_ble_eq_true rfl) (dk DX2_brittleOf 32 rfl) (fun r11 h => ?_)
    obtain ⟨hin, h⟩ := h
    refine stX_49 X hP hD hS hin (dk DX2_brittleOf 33 rfl) (fun S12 eS12 H locs hP hD hS => ?_)
    have h := h S12 eS12
    refine lv_aload_n hx hb (dk DX2_brittleOf 34 rfl) rfl (lv_at hl 2 rfl) ?_
    refine lv_aload_n hx hb (dk DX2_brittleOf 35 rfl) rfl (lv_at hl 3 rfl) ?_
    refine lv_iload_n hx hb (dk DX2_brittleOf 36 rfl) rfl (lv_at hl 4 rfl) ?_
    refine cXv (As := [.ref (q 1), .int a1]) (rest := []) X (m_X2_nameKind_48_1 (l := l) (dC := dC) (dI := dI) (q := q) (cI := cI) (cT := cT) (en := en) (sz := _) a1 S12 h) (cwV 2 X.2.2.2.2.1 (gxV 159 160 161 95 137 rfl rfl rfl rfl rfl) rfl rfl rfl q_X2_nameKind_48_1 ⟨Nat.le_of_ble_eq_true rfl, Nat.le_of_ble_eq_true rfl⟩) (rX_48 X hP) hP hD hS rfl hl.1 rfl (Nat.le_of_ble_eq_true rfl) (dk DX2_brittleOf 37 rfl) (fun S13 H locs h hP hD hS => ?_)
    refine lv_aload_n hx hb (dk DX2_brittleOf 38 rfl) rfl (lv_at hl 2 rfl) ?_
    refine lv_aload_n hx hb (dk DX2_brittleOf 39 rfl) rfl (lv_at hl 1 rfl) ?_
    refine lv_iconst (v := 2) hx hb (dk DX2_brittleOf 40 rfl) (by decide) ?_
    refine cXi (As := [.ref a3, .int 2]) (rest := []) X (m_X2_work_48 (l := l) (dC := dC) (dI := dI) (q := q) (cI := cI) (cT := cT) (en := en) (sz := _) a3 2 S13 h) (cwV 2 X.2.2.2.2.1 (gxV 121 122 123 95 118 rfl rfl rfl rfl rfl) rfl rfl rfl q_X2_work_48 ⟨Nat.le_of_ble_eq_true rfl, Nat.le_of_ble_eq_true rfl⟩) (rX_48 X hP) hP hD hS rfl hl.1 rfl (Nat.le_of_ble_eq_true rfl) (dk DX2_brittleOf 41 rfl) (fun r15 S14 H locs h hP hD hS => ?_)
    refine lv_i2l hx hb (dk DX2_brittleOf 42 rfl) rfl ?_
    refine lv_iconst (v := 0) hx hb (dk DX2_brittleOf 43 rfl) (by decide) ?_
    refine lv_bipush (v := 10) hx hb (dk DX2_brittleOf 44 rfl) (by decide) ?_
    refine cNi (As := [.long (r15.toInt64), .int 0, .int 10]) (rest := []) ⟨X.1, X.2.1, X.2.2.1, X.2.2.2.1, X.2.2.2.2.1⟩ (m_X11_clamp (l := l) (r15.toInt64) 0 10 h) ⟨va_cnB (host := "BreathOnLoan") 3 X.2.2.2.2.1 (gxB (List.mem_of_getElem? (i := 83) rfl)) rfl rfl rfl (X.2.2.2.2.2.2.2.2.1.1 _ (List.mem_of_getElem? (i := 1) rfl)) (X.2.2.2.2.1 (.initialized RX11) (inX 16 rfl)) q_X11_clamp ⟨Nat.le_of_ble_eq_true rfl, Nat.le_of_ble_eq_true rfl⟩, X.2.2.2.2.1 (.static yX11_clamp) (inX 101 rfl), trivial⟩ rfl hl.1 rfl (Nat.le_of_ble_eq_true rfl) (dk DX2_brittleOf 45 rfl) (fun r16 h => ?_)
    exact W.iret (v := r16) hx hb hr (fun t ht hW => ⟨⟨_, _, rfl, h, by rw [ht]; exact hP, va_K.moved hW.alike X.2.2.2.2.2.2.1, hD⟩, hS.F ht⟩) hS.2.2 (dk DX2_brittleOf 46 rfl)

def ww_X2_shareOf_48_1 : List Cond := .code yX2_shareOf cX2_shareOf 6 (some .int) :: (WdX ++ WsX)
theorem q_X2_shareOf_48_1 : yX2_shareOf.cls = RX2 ∧ yX2_shareOf.cls ≠ "java/lang/invoke/MethodHandle" ∧ yX2_shareOf.cls ≠ "java/lang/invoke/VarHandle" ∧ (parseMethodDescriptor yX2_shareOf.desc).map (fun d => d.parameters.length) = some 3 := by decide +kernel
def VC_X2_shareOf_48_1 (Post : Int32 → XS → Prop) (a1 : Int32) (a2 : Int32) (S : XS) : Prop := VC_X0_sum_11 (fun r2 S1 => VC_X2_lawText_1 (fun r4 S3 => ((r4 = none → Post r2 S3) ∧ ∀ a5 : Nat, r4 = some a5 → ∀ v6 : Int32, v6 = (S3.1 352) → vp_in (0 : Int32) 11 ∧ ∀ S7 : XS, S7 = xF S3 49 (upd (S3.2.1 49) (0 : Int32).toNatClampNeg v6) → vp_in (8 : Int32) 11 ∧ ∀ S8 : XS, S8 = xF S7 49 (upd (S7.2.1 49) (8 : Int32).toNatClampNeg r2) → VC_X2_nameBlower_48_1 (fun S9 => VC_X2_nameKind_48_1 (fun S10 => VC_X2_work_48 (fun r12 S11 => VC_X11_clamp (fun r13 => Post r13 S11) (r12.toInt64) 0 99) a5 3 S10) a1 S9) a2 S8)) 3 S1) a1 a2 (-1) S
set_option maxHeartbeats 4000000 in
set_option maxRecDepth 100000 in
theorem m_X2_shareOf_48_1 {l : Launch} {dC : Nat → ClassId} {dI : Nat → Nat → Nat} {q : Nat → Nat} {cI cT : ClassId} {en : Nat → Nat} {sz : Nat} {Post : Int32 → XS → Prop} (a1 : Int32) (a2 : Int32) (S : XS) (h : VC_X2_shareOf_48_1 Post a1 a2 S) : Met l yX2_shareOf ww_X2_shareOf_48_1 ({ frames := 4, cells := 0, slots := 0, locals := 113 } : Room) (va_Pc [.ref (q 48), .ref (q 1), .int a1, .int a2] (preX dC dI q cI cT en S sz)) (va_Qi Post (atX dC dI q cI cT (va_A (wX q cI cT S) sz)) (va_A (wX q cI cT S) sz)) 0 0 (va_A (wX q cI cT S) sz) := by
  refine oX (cc := cX2_shareOf) (maxL := 6) (ret := (some .int)) (Qc := fun A => va_Qi Post (atX dC dI q cI cT A) A) (own := RX2) (by decide) rfl (fun w h => List.mem_cons_of_mem _ (List.mem_append_right _ h)) rfl (Nat.le_of_ble_eq_true rfl) (fun p e s m below meth c A ls X hr hlocks hP hD hS hl => ?_)
  have hx := X.1
  have hb := X.2.1
  have hl : lv_has ls 6 [(0, .ref (q 48)), (1, .ref (q 1)), (2, .int a1), (3, .int a2)] := hl
  have lk34 := X.2.2.2.2.1 (.fieldLink RX2 34 "BreathOnLoan$State" "bench" "LBreathOnLoan$Bench;") (inX 138 rfl)
  have lk9 := X.2.2.2.2.1 (.fieldLink RX2 9 "BreathOnLoan$Judge" "names" "[I") (inX 55 rfl)
  have lk46 := X.2.2.2.2.1 (.fieldLink RX2 46 "BreathOnLoan$Bench" "hour" "I") (inX 151 rfl)
  dsimp only [VC_X2_shareOf_48_1] at h
  refine lv_aload_n hx hb (dk DX2_shareOf 0 rfl) rfl (lv_at hl 1 rfl) ?_
  refine gX_1 X hP 2 (by decide) rfl lk34 (dk DX2_shareOf 1 rfl) ?_
  refine lv_iload_n hx hb (dk DX2_shareOf 2 rfl) rfl (lv_at hl 2 rfl) ?_
  refine lv_iload_n hx hb (dk DX2_shareOf 3 rfl) rfl (lv_at hl 3 rfl) ?_
  refine lv_iconst (v := (-1)) hx hb (dk DX2_shareOf 4 rfl) (by decide) ?_
  refine cXi (As := [.int a1, .int a2, .int (-1)]) (rest := []) X (m_X0_sum_11 (l := l) (dC := dC) (dI := dI) (q := q) (cI := cI) (cT := cT) (en := en) (sz := _) a1 a2 (-1) S h) (cwV 3 X.2.2.2.2.1 (gxV 163 164 165 146 14 rfl rfl rfl rfl rfl) rfl rfl rfl q_X0_sum_11 ⟨Nat.le_of_ble_eq_true rfl, Nat.le_of_ble_eq_true rfl⟩) (rX_11 X hP) hP hD hS rfl hl.1 rfl (Nat.le_of_ble_eq_true rfl) (dk DX2_shareOf 5 rfl) (fun r2 S1 H locs h hP hD hS => ?_)
  refine lv_istore (lv' := [(4, .int r2), (0, .ref (q 48)), (1, .ref (q 1)), (2, .int a1), (3, .int a2)]) hx hb (dk DX2_shareOf 6 rfl) hl (by decide) rfl (fun ls hl => ?_)
  refine lv_aload_n hx hb (dk DX2_shareOf 7 rfl) rfl (lv_at hl 2 rfl) ?_
  refine lv_iconst (v := 3) hx hb (dk DX2_shareOf 8 rfl) (by decide) ?_
  refine cXsq (As := [.ref (q 1), .int 3]) (rest := []) X (m_X2_lawText_1 (l := l) (dC := dC) (dI := dI) (q := q) (cI := cI) (cT := cT) (en := en) (sz := _) 3 S1 h) (va_cwS 2 X.2.2.2.2.1 (gxS 119 120 95 62 rfl rfl rfl rfl) rfl rfl rfl q_X2_lawText_1 ⟨Nat.le_of_ble_eq_true rfl, Nat.le_of_ble_eq_true rfl⟩) hP hD hS rfl hl.1 rfl (Nat.le_of_ble_eq_true rfl) (dk DX2_shareOf 9 rfl) (fun r4 S3 H locs h hP hD hS => ?_)
  rcases r4 with _ | a5
  · have h := h.1 rfl
    refine lv_astoreN (lv' := [(5, .null), (4, .int r2), (0, .ref (q 48)), (1, .ref (q 1)), (2, .int a1), (3, .int a2)]) hx hb (dk DX2_shareOf 10 rfl) hl (by decide) rfl (fun ls hl => ?_)
    refine lv_aloadN hx hb (dk DX2_shareOf 11 rfl) (lv_at hl 0 rfl) ?_
    refine lv_ifnonnullN hx hb (dk DX2_shareOf 12 rfl) ?_
    refine lv_iload hx hb (dk DX2_shareOf 13 rfl) (lv_at hl 1 rfl) ?_
    exact W.iret (v := r2) hx hb hr (fun t ht hW => ⟨⟨_, _, rfl, h, by rw [ht]; exact hP, va_K.moved hW.alike X.2.2.2.2.2.2.1, hD⟩, hS.F ht⟩) hS.2.2 (dk DX2_shareOf 14 rfl)
  · have h := h.2 a5 rfl
    refine lv_astore (lv' := [(5, .ref a5), (4, .int r2), (0, .ref (q 48)), (1, .ref (q 1)), (2, .int a1), (3, .int a2)]) hx hb (dk DX2_shareOf 10 rfl) hl (by decide) rfl (fun ls hl => ?_)
    refine lv_aload hx hb (dk DX2_shareOf 11 rfl) (lv_at hl 0 rfl) ?_
    refine lv_ifnonnull (tgt := 27) hx hb (dk DX2_shareOf 12 rfl) (by decide) ?_
    refine lv_aload_n hx hb (dk DX2_shareOf 15 rfl) rfl (lv_at hl 2 rfl) ?_
    refine gX_48 X hP 0 (by decide) rfl lk9 (dk DX2_shareOf 16 rfl) ?_
    refine lv_iconst (v := 0) hx hb (dk DX2_shareOf 17 rfl) (by decide) ?_
    refine lv_aload_n hx hb (dk DX2_shareOf 18 rfl) rfl (lv_at hl 3 rfl) ?_
    refine gX_1 X hP 2 (by decide) rfl lk34 (dk DX2_shareOf 19 rfl) ?_
    refine gX_11 X hP 0 (by decide) rfl lk46 (dk DX2_shareOf 20 rfl) ?_
    refine lv_topi (fun v6 ev6 => ?_)
    have h := h v6 ev6
    obtain ⟨hin, h⟩ := h
    refine stX_49 X hP hD hS hin (dk DX2_shareOf 21 rfl) (fun S7 eS7 H locs hP hD hS => ?_)
    have h := h S7 eS7
    refine lv_aload_n hx hb (dk DX2_shareOf 22 rfl) rfl (lv_at hl 2 rfl) ?_
    refine gX_48 X hP 0 (by decide) rfl lk9 (dk DX2_shareOf 23 rfl) ?_
    refine lv_bipush (v := 8) hx hb (dk DX2_shareOf 24 rfl) (by decide) ?_
    refine lv_iload hx hb (dk DX2_shareOf 25 rfl) (lv_at hl 1 rfl) ?_
    obtain ⟨hin, h⟩ := h
    refine stX_49 X hP hD hS hin (dk DX2_shareOf 26 rfl) (fun S8 eS8 H locs hP hD hS => ?_)
    have h := h S8 eS8
    refine lv_aload_n hx hb (dk DX2_shareOf 27 rfl) rfl (lv_at hl 2 rfl) ?_
    refine lv_aload_n hx hb (dk DX2_shareOf 28 rfl) rfl (lv_at hl 3 rfl) ?_
    refine lv_iload_n hx hb (dk DX2_shareOf 29 rfl) rfl (lv_at hl 5 rfl) ?_
    refine cXv (As := [.ref (q 1), .int a2]) (rest := []) X (m_X2_nameBlower_48_1 (l := l) (dC := dC) (dI := dI) (q := q) (cI := cI) (cT := cT) (en := en) (sz := _) a2 S8 h) (cwV 2 X.2.2.2.2.1 (gxV 131 132 133 95 125 rfl rfl rfl rfl rfl) rfl rfl rfl q_X2_nameBlower_48_1 ⟨Nat.le_of_ble_eq_true rfl, Nat.le_of_ble_eq_true rfl⟩) (rX_48 X hP) hP hD hS rfl hl.1 rfl (Nat.le_of_ble_eq_true rfl) (dk DX2_shareOf 30 rfl) (fun S9 H locs h hP hD hS => ?_)
    refine lv_aload_n hx hb (dk DX2_shareOf 31 rfl) rfl (lv_at hl 2 rfl) ?_
    refine lv_aload_n hx hb (dk DX2_shareOf 32 rfl) rfl (lv_at hl 3 rfl) ?_
    refine lv_iload_n hx hb (dk DX2_shareOf 33 rfl) rfl (lv_at hl 4 rfl) ?_
    refine cXv (As := [.ref (q 1), .int a1]) (rest := []) X (m_X2_nameKind_48_1 (l := l) (dC := dC) (dI := dI) (q := q) (cI := cI) (cT := cT) (en := en) (sz := _) a1 S9 h) (cwV 2 X.2.2.2.2.1 (gxV 159 160 161 95 137 rfl rfl rfl rfl rfl) rfl rfl rfl q_X2_nameKind_48_1 ⟨Nat.le_of_ble_eq_true rfl, Nat.le_of_ble_eq_true rfl⟩) (rX_48 X hP) hP hD hS rfl hl.1 rfl (Nat.le_of_ble_eq_true rfl) (dk DX2_shareOf 34 rfl) (fun S10 H locs h hP hD hS => ?_)
    refine lv_aload_n hx hb (dk DX2_shareOf 35 rfl) rfl (lv_at hl 2 rfl) ?_
    refine lv_aload hx hb (dk DX2_shareOf 36 rfl) (lv_at hl 0 rfl) ?_
    refine lv_iconst (v := 3) hx hb (dk DX2_shareOf 37 rfl) (by decide) ?_
    refine cXi (As := [.ref a5, .int 3]) (rest := []) X (m_X2_work_48 (l := l) (dC := dC) (dI := dI) (q := q) (cI := cI) (cT := cT) (en := en) (sz := _) a5 3 S10 h) (cwV 2 X.2.2.2.2.1 (gxV 121 122 123 95 118 rfl rfl rfl rfl rfl) rfl rfl rfl q_X2_work_48 ⟨Nat.le_of_ble_eq_true rfl, Nat.le_of_ble_eq_true rfl⟩) (rX_48 X hP) hP hD hS rfl hl.1 rfl (Nat.le_of_ble_eq_true rfl) (dk DX2_shareOf 38 rfl) (fun r12 S11 H locs h hP hD hS => ?_)
    refine lv_i2l hx hb (dk DX2_shareOf 39 rfl) rfl ?_
    refine lv_iconst (v := 0) hx hb (dk DX2_shareOf 40 rfl) (by decide) ?_
    refine lv_bipush (v := 99) hx hb (dk DX2_shareOf 41 rfl) (by decide) ?_
    refine cNi (As := [.long (r12.toInt64), .int 0, .int 99]) (rest := []) ⟨X.1, X.2.1, X.2.2.1, X.2.2.2.1, X.2.2.2.2.1⟩ (m_X11_clamp (l := l) (r12.toInt64) 0 99 h) ⟨va_cnB (host := "BreathOnLoan") 3 X.2.2.2.2.1 (gxB (List.mem_of_getElem? (i := 83) rfl)) rfl rfl rfl (X.2.2.2.2.2.2.2.2.1.1 _ (List.mem_of_getElem? (i := 1) rfl)) (X.2.2.2.2.1 (.initialized RX11) (inX 16 rfl)) q_X11_clamp ⟨Nat.le_of_ble_eq_true rfl, Nat.le_of_ble_eq_true rfl⟩, X.2.2.2.2.1 (.static yX11_clamp) (inX 101 rfl), trivial⟩ rfl hl.1 rfl (Nat.le_of_ble_eq_true rfl) (dk DX2_shareOf 42 rfl) (fun r13 h => ?_)
    exact W.iret (v := r13) hx hb hr (fun t ht hW => ⟨⟨_, _, rfl, h, by rw [ht]; exact hP, va_K.moved hW.alike X.2.2.2.2.2.2.1, hD⟩, hS.F ht⟩) hS.2.2 (dk DX2_shareOf 43 rfl)

