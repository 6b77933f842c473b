-- X3_readWord_43 X3_advance_43 X3_parseName_43 X3_number_43 X3_expect_43 X3_enter_43
def ww_X3_readWord_43 : List Cond := .code yX3_readWord cX3_readWord 4 none :: (WdX ++ WsX)
theorem q_X3_readWord_43 : yX3_readWord.cls = RX3 ∧ yX3_readWord.cls ≠ "java/lang/invoke/MethodHandle" ∧ yX3_readWord.cls ≠ "java/lang/invoke/VarHandle" ∧ (parseMethodDescriptor yX3_readWord.desc).map (fun d => d.parameters.length) = some 0 := by decide +kernel
abbrev Hd_X3_readWord_43 : Type := Unit ⊕ Unit ⊕ (Int32 × Int32 × Int32) ⊕ (Int32 × Int32 × Int32)
def B_X3_readWord_43 (Post : XS → Prop) (K : Hd_X3_readWord_43 → XS → Prop) : Hd_X3_readWord_43 → XS → Prop
  | (.inl ()), S => (((S.1 1313) ≤ (S.1 1380) → K (.inr (.inl ())) S) ∧ (¬ (S.1 1313) ≤ (S.1 1380) → vp_in (S.1 1380) 300 ∧ VC_X3_isLetter (fun r2 S1 => ((r2 = 0 → K (.inr (.inl ())) S1) ∧ (¬ r2 = 0 → ∀ v3 : Int32, v3 = (S1.1 1380) + 1 → ∀ S4 : XS, S4 = xI S1 1380 v3 → K (.inl ()) S4))) ((S.2.1 42) (S.1 1380).toNatClampNeg) S))
  | (.inr (.inl ())), S => ∀ S5 : XS, S5 = xI S 1381 17 → K (.inr (.inr (.inl (0, 0, 0)))) S5
  | (.inr (.inr (.inl (x1, x2, x3)))), S => VC_J0_length_8abf5_101 (fun r7 S6 => ((r7 < x3 → Post S6) ∧ (¬ r7 < x3 → VC_J0_length_8abf5_101 (fun r9 S8 => ((x3 = r9 → K (.inr (.inr (.inr (x1, x2, x3)))) S8) ∧ (¬ x3 = r9 → VC_J0_charAt_5068e_101 (fun r11 S10 => ((¬ r11 = 32 → ∀ v12 : Int32, v12 = x3 + 1 → K (.inr (.inr (.inl (x1, x2, v12)))) S10) ∧ (r11 = 32 → K (.inr (.inr (.inr (x1, x2, x3)))) S10))) x3 S8))) S6))) S
  | (.inr (.inr (.inr (x1, x2, x3)))), S => VC_X3_isWord_43 (fun r14 S13 => ((r14 = 0 → ∀ v15 : Int32, v15 = x1 + 1 → ∀ v16 : Int32, v16 = x3 + 1 → ∀ v17 : Int32, v17 = x3 + 1 → K (.inr (.inr (.inl (v15, v16, v17)))) S13) ∧ (¬ r14 = 0 → ∀ v18 : Int32, v18 = 32 + x1 → ∀ S19 : XS, S19 = xI S13 1381 v18 → ∀ v20 : Int32, v20 = x1 + 1 → ∀ v21 : Int32, v21 = x3 + 1 → ∀ v22 : Int32, v22 = x3 + 1 → K (.inr (.inr (.inl (v20, v21, v22)))) S19))) x2 x3 S
def VC_X3_readWord_43 (Post : XS → Prop) (S : XS) : Prop := ∀ K : Hd_X3_readWord_43 → XS → Prop, (∀ h S, B_X3_readWord_43 Post K h S → K h S) → K (.inl ()) S
set_option maxHeartbeats 4000000 in
set_option maxRecDepth 100000 in
theorem h_X3_readWord_43_0 {p : Program} {l : Launch} {e : Env} {s : State} {m : MethodId} {below : List Frame} {meth : Method} {c : Code} {dC : Nat → ClassId} {dI : Nat → Nat → Nat} {q : Nat → Nat} {cI cT : ClassId} {en : Nat → Nat} {A : Nat → Prop} {args : Array Value} {Post : XS → Prop} {K : Hd_X3_readWord_43 → XS → Prop} (X : XX p s m args c cX3_readWord 4 ww_X3_readWord_43 RX3 dC dI cI cT en A) (hr : meth.sig.returnType = none) (hlocks : meth.locks = false) (hK0 : ∀ (S : XS), K (.inl ()) S → ∀ (H : Heap) (locs : List Loc), va_P (dC, dI) vwCl (wX q cI cT S) H → va_D A (wX q cI cT S) → va_S A s.heap H locs → ∀ ls : Array Slot, lv_has ls 4 [(0, .ref (q 43))] → W p l e (headSpec ww_X3_readWord_43 ({ frames := 5, cells := 0, slots := 0, locals := 108 } : Room)).room s m args below meth c H locs 0 0 (MQ below (va_Qv Post (atX dC dI q cI cT A) A) args s 0 0 A) (F0 m 0 ls [])) (hK1 : ∀ (S : XS), K (.inr (.inl ())) S → ∀ (H : Heap) (locs : List Loc), va_P (dC, dI) vwCl (wX q cI cT S) H → va_D A (wX q cI cT S) → va_S A s.heap H locs → ∀ ls : Array Slot, lv_has ls 4 [(0, .ref (q 43))] → W p l e (headSpec ww_X3_readWord_43 ({ frames := 5, cells := 0, slots := 0, locals := 108 } : Room)).room s m args below meth c H locs 0 0 (MQ below (va_Qv Post (atX dC dI q cI cT A) A) args s 0 0 A) (F0 m 45 ls [])) (hK2 : ∀ (x1 : Int32) (x2 : Int32) (x3 : Int32) (S : XS), K (.inr (.inr (.inl (x1, x2, x3)))) S → ∀ (H : Heap) (locs : List Loc), va_P (dC, dI) vwCl (wX q cI cT S) H → va_D A (wX q cI cT S) → va_S A s.heap H locs → ∀ ls : Array Slot, lv_has ls 4 [(0, .ref (q 43)), (1, .int x1), (2, .int x2), (3, .int x3)] → W p l e (headSpec ww_X3_readWord_43 ({ frames := 5, cells := 0, slots := 0, locals := 108 } : Room)).room s m args below meth c H locs 0 0 (MQ below (va_Qv Post (atX dC dI q cI cT A) A) args s 0 0 A) (F0 m 57 ls [])) (hK3 : ∀ (x1 : Int32) (x2 : Int32) (x3 : Int32) (S : XS), K (.inr (.inr (.inr (x1, x2, x3)))) S → ∀ (H : Heap) (locs : List Loc), va_P (dC, dI) vwCl (wX q cI cT S) H → va_D A (wX q cI cT S) → va_S A s.heap H locs → ∀ ls : Array Slot, lv_has ls 4 [(0, .ref (q 43)), (1, .int x1), (2, .int x2), (3, .int x3)] → W p l e (headSpec ww_X3_readWord_43 ({ frames := 5, cells := 0, slots := 0, locals := 108 } : Room)).room s m args below meth c H locs 0 0 (MQ below (va_Qv Post (atX dC dI q cI cT A) A) args s 0 0 A) (F0 m 86 ls [])) (S : XS) (h : B_X3_readWord_43 Post K (.inl ()) S) : ∀ (H : Heap) (locs : List Loc), va_P (dC, dI) vwCl (wX q cI cT S) H → va_D A (wX q cI cT S) → va_S A s.heap H locs → ∀ ls : Array Slot, lv_has ls 4 [(0, .ref (q 43))] → W p l e (headSpec ww_X3_readWord_43 ({ frames := 5, cells := 0, slots := 0, locals := 108 } : Room)).room s m args below meth c H locs 0 0 (MQ below (va_Qv Post (atX dC dI q cI cT A) A) args s 0 0 A) (F0 m 0 ls []) := by
  have hx := X.1
  have hb := X.2.1
  intro H locs hP hD hS ls hl
  have lk39 := X.2.2.2.2.1 (.fieldLink RX3 39 "BreathOnLoan$Parser" "next" "I") (inX 220 rfl)
  have lk28 := X.2.2.2.2.1 (.fieldLink RX3 28 "BreathOnLoan$Parser" "tape" "LBreathOnLoan$Tape;") (inX 174 rfl)
  have lk144 := X.2.2.2.2.1 (.fieldLink RX3 144 "BreathOnLoan$Tape" "length" "I") (inX 227 rfl)
  have lk149 := X.2.2.2.2.1 (.fieldLink RX3 149 "BreathOnLoan$Tape" "bytes" "[I") (inX 222 rfl)
  have lk60 := X.2.2.2.2.1 (.fieldLink RX3 60 "BreathOnLoan$Parser" "token" "I") (inX 228 rfl)
  dsimp only [B_X3_readWord_43] at h
  refine lv_aload_n hx hb (dk DX3_readWord 0 rfl) rfl (lv_at hl 0 rfl) ?_
  refine gX_43 X hP 4 (by decide) rfl lk39 (dk DX3_readWord 1 rfl) ?_
  refine lv_aload_n hx hb (dk DX3_readWord 2 rfl) rfl (lv_at hl 0 rfl) ?_
  refine gX_43 X hP 3 (by decide) rfl lk28 (dk DX3_readWord 3 rfl) ?_
  refine gX_41 X hP 1 (by decide) rfl lk144 (dk DX3_readWord 4 rfl) ?_
  refine lv_icmp_ge (tgt := 45) hx hb (dk DX3_readWord 5 rfl) (by decide) (fun hc => ?_) (fun hc => ?_)
  · have h := h.1 hc
    exact hK1 S h _ _ hP hD hS ls (lv_sub hl [0] rfl)
  · have h := h.2 hc
    refine lv_aload_n hx hb (dk DX3_readWord 6 rfl) rfl (lv_at hl 0 rfl) ?_
    refine gX_43 X hP 3 (by decide) rfl lk28 (dk DX3_readWord 7 rfl) ?_
    refine gX_41 X hP 0 (by decide) rfl lk149 (dk DX3_readWord 8 rfl) ?_
    refine lv_aload_n hx hb (dk DX3_readWord 9 rfl) rfl (lv_at hl 0 rfl) ?_
    refine gX_43 X hP 4 (by decide) rfl lk39 (dk DX3_readWord 10 rfl) ?_
    obtain ⟨hin, h⟩ := h
    refine ldX_42 X hP hin (dk DX3_readWord 11 rfl) ?_
    refine cXsi (As := [.int ((S.2.1 42) (S.1 1380).toNatClampNeg)]) (rest := []) X (m_X3_isLetter (l := l) (dC := dC) (dI := dI) (q := q) (cI := cI) (cT := cT) (en := en) (sz := _) ((S.2.1 42) (S.1 1380).toNatClampNeg) S h) (va_cwS 1 X.2.2.2.2.1 (gxS 229 230 231 176 rfl rfl rfl rfl) rfl rfl rfl q_X3_isLetter ⟨Nat.le_of_ble_eq_true rfl, Nat.le_of_ble_eq_true rfl⟩) hP hD hS rfl hl.1 rfl (Nat.le_of_ble_eq_true rfl) (dk DX3_readWord 12 rfl) (fun r2 S1 H locs h hP hD hS => ?_)
    refine lv_if_eq (tgt := 45) hx hb (dk DX3_readWord 13 rfl) (by decide) (fun hc => ?_) (fun hc => ?_)
    · have h := h.1 hc
      exact hK1 S1 h _ _ hP hD hS ls (lv_sub hl [0] rfl)
    · have h := h.2 hc
      refine lv_aload_n hx hb (dk DX3_readWord 14 rfl) rfl (lv_at hl 0 rfl) ?_
      refine lv_dup hx hb (dk DX3_readWord 15 rfl) rfl ?_
      refine gX_43 X hP 4 (by decide) rfl lk39 (dk DX3_readWord 16 rfl) ?_
      refine lv_iconst (v := 1) hx hb (dk DX3_readWord 17 rfl) (by decide) ?_
      refine lv_iadd hx hb (dk DX3_readWord 18 rfl) ?_
      refine lv_topi (fun v3 ev3 => ?_)
      have h := h v3 ev3
      refine pX_43_4 X hP hD hS lk39 (dk DX3_readWord 19 rfl) (fun S4 eS4 H locs hP hD hS => ?_)
      have h := h S4 eS4
      refine lv_goto (tgt := 0) hx hb (dk DX3_readWord 20 rfl) (by decide) ?_
      exact hK0 S4 h _ _ hP hD hS ls (lv_sub hl [0] rfl)
set_option maxHeartbeats 4000000 in
set_option maxRecDepth 100000 in
theorem h_X3_readWord_43_1 {p : Program} {l : Launch} {e : Env} {s : State} {m : MethodId} {below : List Frame} {meth : Method} {c : Code} {dC : Nat → ClassId} {dI : Nat → Nat → Nat} {q : Nat → Nat} {cI cT : ClassId} {en : Nat → Nat} {A : Nat → Prop} {args : Array Value} {Post : XS → Prop} {K : Hd_X3_readWord_43 → XS → Prop} (X : XX p s m args c cX3_readWord 4 ww_X3_readWord_43 RX3 dC dI cI cT en A) (hr : meth.sig.returnType = none) (hlocks : meth.locks = false) (hK0 : ∀ (S : XS), K (.inl ()) S → ∀ (H : Heap) (locs : List Loc), va_P (dC, dI) vwCl (wX q cI cT S) H → va_D A (wX q cI cT S) → va_S A s.heap H locs → ∀ ls : Array Slot, lv_has ls 4 [(0, .ref (q 43))] → W p l e (headSpec ww_X3_readWord_43 ({ frames := 5, cells := 0, slots := 0, locals := 108 } : Room)).room s m args below meth c H locs 0 0 (MQ below (va_Qv Post (atX dC dI q cI cT A) A) args s 0 0 A) (F0 m 0 ls [])) (hK1 : ∀ (S : XS), K (.inr (.inl ())) S → ∀ (H : Heap) (locs : List Loc), va_P (dC, dI) vwCl (wX q cI cT S) H → va_D A (wX q cI cT S) → va_S A s.heap H locs → ∀ ls : Array Slot, lv_has ls 4 [(0, .ref (q 43))] → W p l e (headSpec ww_X3_readWord_43 ({ frames := 5, cells := 0, slots := 0, locals := 108 } : Room)).room s m args below meth c H locs 0 0 (MQ below (va_Qv Post (atX dC dI q cI cT A) A) args s 0 0 A) (F0 m 45 ls [])) (hK2 : ∀ (x1 : Int32) (x2 : Int32) (x3 : Int32) (S : XS), K (.inr (.inr (.inl (x1, x2, x3)))) S → ∀ (H : Heap) (locs : List Loc), va_P (dC, dI) vwCl (wX q cI cT S) H → va_D A (wX q cI cT S) → va_S A s.heap H locs → ∀ ls : Array Slot, lv_has ls 4 [(0, .ref (q 43)), (1, .int x1), (2, .int x2), (3, .int x3)] → W p l e (headSpec ww_X3_readWord_43 ({ frames := 5, cells := 0, slots := 0, locals := 108 } : Room)).room s m args below meth c H locs 0 0 (MQ below (va_Qv Post (atX dC dI q cI cT A) A) args s 0 0 A) (F0 m 57 ls [])) (hK3 : ∀ (x1 : Int32) (x2 : Int32) (x3 : Int32) (S : XS), K (.inr (.inr (.inr (x1, x2, x3)))) S → ∀ (H : Heap) (locs : List Loc), va_P (dC, dI) vwCl (wX q cI cT S) H → va_D A (wX q cI cT S) → va_S A s.heap H locs → ∀ ls : Array Slot, lv_has ls 4 [(0, .ref (q 43)), (1, .int x1), (2, .int x2), (3, .int x3)] → W p l e (headSpec ww_X3_readWord_43 ({ frames := 5, cells := 0, slots := 0, locals := 108 } : Room)).room s m args below meth c H locs 0 0 (MQ below (va_Qv Post (atX dC dI q cI cT A) A) args s 0 0 A) (F0 m 86 ls [])) (S : XS) (h : B_X3_readWord_43 Post K (.inr (.inl ())) S) : ∀ (H : Heap) (locs : List Loc), va_P (dC, dI) vwCl (wX q cI cT S) H → va_D A (wX q cI cT S) → va_S A s.heap H locs → ∀ ls : Array Slot, lv_has ls 4 [(0, .ref (q 43))] → W p l e (headSpec ww_X3_readWord_43 ({ frames := 5, cells := 0, slots := 0, locals := 108 } : Room)).room s m args below meth c H locs 0 0 (MQ below (va_Qv Post (atX dC dI q cI cT A) A) args s 0 0 A) (F0 m 45 ls []) := by
  have hx := X.1
  have hb := X.2.1
  intro H locs hP hD hS ls hl
  have lk39 := X.2.2.2.2.1 (.fieldLink RX3 39 "BreathOnLoan$Parser" "next" "I") (inX 220 rfl)
  have lk28 := X.2.2.2.2.1 (.fieldLink RX3 28 "BreathOnLoan$Parser" "tape" "LBreathOnLoan$Tape;") (inX 174 rfl)
  have lk144 := X.2.2.2.2.1 (.fieldLink RX3 144 "BreathOnLoan$Tape" "length" "I") (inX 227 rfl)
  have lk149 := X.2.2.2.2.1 (.fieldLink RX3 149 "BreathOnLoan$Tape" "bytes" "[I") (inX 222 rfl)
  have lk60 := X.2.2.2.2.1 (.fieldLink RX3 60 "BreathOnLoan$Parser" "token" "I") (inX 228 rfl)
  dsimp only [B_X3_readWord_43] at h
  refine lv_aload_n hx hb (dk DX3_readWord 21 rfl) rfl (lv_at hl 0 rfl) ?_
  refine lv_bipush (v := 17) hx hb (dk DX3_readWord 22 rfl) (by decide) ?_
  refine pX_43_5 X hP hD hS lk60 (dk DX3_readWord 23 rfl) (fun S5 eS5 H locs hP hD hS => ?_)
  have h := h S5 eS5
  refine lv_iconst (v := 0) hx hb (dk DX3_readWord 24 rfl) (by decide) ?_
  refine lv_istore_n (lv' := [(1, .int 0), (0, .ref (q 43))]) hx hb (dk DX3_readWord 25 rfl) rfl hl (by decide) rfl (fun ls hl => ?_)
  refine lv_iconst (v := 0) hx hb (dk DX3_readWord 26 rfl) (by decide) ?_
  refine lv_istore_n (lv' := [(2, .int 0), (1, .int 0), (0, .ref (q 43))]) hx hb (dk DX3_readWord 27 rfl) rfl hl (by decide) rfl (fun ls hl => ?_)
  refine lv_iconst (v := 0) hx hb (dk DX3_readWord 28 rfl) (by decide) ?_
  refine lv_istore_n (lv' := [(3, .int 0), (2, .int 0), (1, .int 0), (0, .ref (q 43))]) hx hb (dk DX3_readWord 29 rfl) rfl hl (by decide) rfl (fun ls hl => ?_)
  exact hK2 0 0 0 S5 h _ _ hP hD hS ls (lv_sub hl [3, 2, 1, 0] rfl)
set_option maxHeartbeats 4000000 in
set_option maxRecDepth 100000 in
theorem h_X3_readWord_43_2 {p : Program} {l : Launch} {e : Env} {s : State} {m : MethodId} {below : List Frame} {meth : Method} {c : Code} {dC : Nat → ClassId} {dI : Nat → Nat → Nat} {q : Nat → Nat} {cI cT : ClassId} {en : Nat → Nat} {A : Nat → Prop} {args : Array Value} {Post : XS → Prop} {K : Hd_X3_readWord_43 → XS → Prop} (X : XX p s m args c cX3_readWord 4 ww_X3_readWord_43 RX3 dC dI cI cT en A) (hr : meth.sig.returnType = none) (hlocks : meth.locks = false) (hK0 : ∀ (S : XS), K (.inl ()) S → ∀ (H : Heap) (locs : List Loc), va_P (dC, dI) vwCl (wX q cI cT S) H → va_D A (wX q cI cT S) → va_S A s.heap H locs → ∀ ls : Array Slot, lv_has ls 4 [(0, .ref (q 43))] → W p l e (headSpec ww_X3_readWord_43 ({ frames := 5, cells := 0, slots := 0, locals := 108 } : Room)).room s m args below meth c H locs 0 0 (MQ below (va_Qv Post (atX dC dI q cI cT A) A) args s 0 0 A) (F0 m 0 ls [])) (hK1 : ∀ (S : XS), K (.inr (.inl ())) S → ∀ (H : Heap) (locs : List Loc), va_P (dC, dI) vwCl (wX q cI cT S) H → va_D A (wX q cI cT S) → va_S A s.heap H locs → ∀ ls : Array Slot, lv_has ls 4 [(0, .ref (q 43))] → W p l e (headSpec ww_X3_readWord_43 ({ frames := 5, cells := 0, slots := 0, locals := 108 } : Room)).room s m args below meth c H locs 0 0 (MQ below (va_Qv Post (atX dC dI q cI cT A) A) args s 0 0 A) (F0 m 45 ls [])) (hK2 : ∀ (x1 : Int32) (x2 : Int32) (x3 : Int32) (S : XS), K (.inr (.inr (.inl (x1, x2, x3)))) S → ∀ (H : Heap) (locs : List Loc), va_P (dC, dI) vwCl (wX q cI cT S) H → va_D A (wX q cI cT S) → va_S A s.heap H locs → ∀ ls : Array Slot, lv_has ls 4 [(0, .ref (q 43)), (1, .int x1), (2, .int x2), (3, .int x3)] → W p l e (headSpec ww_X3_readWord_43 ({ frames := 5, cells := 0, slots := 0, locals := 108 } : Room)).room s m args below meth c H locs 0 0 (MQ below (va_Qv Post (atX dC dI q cI cT A) A) args s 0 0 A) (F0 m 57 ls [])) (hK3 : ∀ (x1 : Int32) (x2 : Int32) (x3 : Int32) (S : XS), K (.inr (.inr (.inr (x1, x2, x3)))) S → ∀ (H : Heap) (locs : List Loc), va_P (dC, dI) vwCl (wX q cI cT S) H → va_D A (wX q cI cT S) → va_S A s.heap H locs → ∀ ls : Array Slot, lv_has ls 4 [(0, .ref (q 43)), (1, .int x1), (2, .int x2), (3, .int x3)] → W p l e (headSpec ww_X3_readWord_43 ({ frames := 5, cells := 0, slots := 0, locals := 108 } : Room)).room s m args below meth c H locs 0 0 (MQ below (va_Qv Post (atX dC dI q cI cT A) A) args s 0 0 A) (F0 m 86 ls [])) (x1 : Int32) (x2 : Int32) (x3 : Int32) (S : XS) (h : B_X3_readWord_43 Post K (.inr (.inr (.inl (x1, x2, x3)))) S) : ∀ (H : Heap) (locs : List Loc), va_P (dC, dI) vwCl (wX q cI cT S) H → va_D A (wX q cI cT S) → va_S A s.heap H locs → ∀ ls : Array Slot, lv_has ls 4 [(0, .ref (q 43)), (1, .int x1), (2, .int x2), (3, .int x3)] → W p l e (headSpec ww_X3_readWord_43 ({ frames := 5, cells := 0, slots := 0, locals := 108 } : Room)).room s m args below meth c H locs 0 0 (MQ below (va_Qv Post (atX dC dI q cI cT A) A) args s 0 0 A) (F0 m 57 ls []) := by
  have hx := X.1
  have hb := X.2.1
  intro H locs hP hD hS ls hl
  have lk39 := X.2.2.2.2.1 (.fieldLink RX3 39 "BreathOnLoan$Parser" "next" "I") (inX 220 rfl)
  have lk28 := X.2.2.2.2.1 (.fieldLink RX3 28 "BreathOnLoan$Parser" "tape" "LBreathOnLoan$Tape;") (inX 174 rfl)
  have lk144 := X.2.2.2.2.1 (.fieldLink RX3 144 "BreathOnLoan$Tape" "length" "I") (inX 227 rfl)
  have lk149 := X.2.2.2.2.1 (.fieldLink RX3 149 "BreathOnLoan$Tape" "bytes" "[I") (inX 222 rfl)
  have lk60 := X.2.2.2.2.1 (.fieldLink RX3 60 "BreathOnLoan$Parser" "token" "I") (inX 228 rfl)
  dsimp only [B_X3_readWord_43] at h
  refine lv_iload_n hx hb (dk DX3_readWord 30 rfl) rfl (lv_at hl 3 rfl) ?_
  refine lsX_1 X (dk DX3_readWord 31 rfl) ?_
  refine cXi (As := []) (rest := [.int x3]) X (m_J0_length_8abf5_101 (l := l) (dC := dC) (dI := dI) (q := q) (cI := cI) (cT := cT) (en := en) (sz := _) S h) (cwV 0 X.2.2.2.2.1 (gxV 232 233 234 185 180 rfl rfl rfl rfl rfl) rfl rfl rfl q_J0_length_8abf5_101 ⟨Nat.le_of_ble_eq_true rfl, Nat.le_of_ble_eq_true rfl⟩) (rE_1 X hS) hP hD hS rfl hl.1 rfl (Nat.le_of_ble_eq_true rfl) (dk DX3_readWord 32 rfl) (fun r7 S6 H locs h hP hD hS => ?_)
  refine lv_icmp_gt (tgt := 116) hx hb (dk DX3_readWord 33 rfl) (by decide) (fun hc => ?_) (fun hc => ?_)
  · have h := h.1 hc
    exact W.vret hx hb hr (fun t ht hW => ⟨⟨_, rfl, h, by rw [ht]; exact hP, va_K.moved hW.alike X.2.2.2.2.2.2.1, hD⟩, hS.F ht⟩) hS.2.2 (dk DX3_readWord 60 rfl)
  · have h := h.2 hc
    refine lv_iload_n hx hb (dk DX3_readWord 34 rfl) rfl (lv_at hl 3 rfl) ?_
    refine lsX_1 X (dk DX3_readWord 35 rfl) ?_
    refine cXi (As := []) (rest := [.int x3]) X (m_J0_length_8abf5_101 (l := l) (dC := dC) (dI := dI) (q := q) (cI := cI) (cT := cT) (en := en) (sz := _) S6 h) (cwV 0 X.2.2.2.2.1 (gxV 232 233 234 185 180 rfl rfl rfl rfl rfl) rfl rfl rfl q_J0_length_8abf5_101 ⟨Nat.le_of_ble_eq_true rfl, Nat.le_of_ble_eq_true rfl⟩) (rE_1 X hS) hP hD hS rfl hl.1 rfl (Nat.le_of_ble_eq_true rfl) (dk DX3_readWord 36 rfl) (fun r9 S8 H locs h hP hD hS => ?_)
    refine lv_icmp_eq (tgt := 86) hx hb (dk DX3_readWord 37 rfl) (by decide) (fun hc => ?_) (fun hc => ?_)
    · have h := h.1 hc
      exact hK3 x1 x2 x3 S8 h _ _ hP hD hS ls (lv_sub hl [0, 1, 2, 3] rfl)
    · have h := h.2 hc
      refine lsX_1 X (dk DX3_readWord 38 rfl) ?_
      refine lv_iload_n hx hb (dk DX3_readWord 39 rfl) rfl (lv_at hl 3 rfl) ?_
      refine cXi (As := [.int x3]) (rest := []) X (m_J0_charAt_5068e_101 (l := l) (dC := dC) (dI := dI) (q := q) (cI := cI) (cT := cT) (en := en) (sz := _) x3 S8 h) (cwV 1 X.2.2.2.2.1 (gxV 223 224 225 185 219 rfl rfl rfl rfl rfl) rfl rfl rfl q_J0_charAt_5068e_101 ⟨Nat.le_of_ble_eq_true rfl, Nat.le_of_ble_eq_true rfl⟩) (rE_1 X hS) hP hD hS rfl hl.1 rfl (Nat.le_of_ble_eq_true rfl) (dk DX3_readWord 40 rfl) (fun r11 S10 H locs h hP hD hS => ?_)
      refine lv_bipush (v := 32) hx hb (dk DX3_readWord 41 rfl) (by decide) ?_
      refine lv_icmp_ne (tgt := 110) hx hb (dk DX3_readWord 42 rfl) (by decide) (fun hc => ?_) (fun hc => ?_)
      · have h := h.1 hc
        obtain ⟨v12, ev12⟩ : ∃ y : Int32, y = x3 + 1 := ⟨_, rfl⟩
        have h := h v12 ev12
        refine lv_iinc (v := v12) (lv' := [(3, .int v12), (0, .ref (q 43)), (1, .int x1), (2, .int x2)]) hx hb (dk DX3_readWord 58 rfl) hl (k := 3) rfl (by rw [ev12]; rfl) (by decide) rfl (fun ls hl => ?_)
        refine lv_goto (tgt := 57) hx hb (dk DX3_readWord 59 rfl) (by decide) ?_
        exact hK2 x1 x2 v12 S10 h _ _ hP hD hS ls (lv_sub hl [1, 2, 3, 0] rfl)
      · have h := h.2 hc
        exact hK3 x1 x2 x3 S10 h _ _ hP hD hS ls (lv_sub hl [0, 1, 2, 3] rfl)
set_option maxHeartbeats 4000000 in
set_option maxRecDepth 100000 in
theorem h_X3_readWord_43_3 {p : Program} {l : Launch} {e : Env} {s : State} {m : MethodId} {below : List Frame} {meth : Method} {c : Code} {dC : Nat → ClassId} {dI : Nat → Nat → Nat} {q : Nat → Nat} {cI cT : ClassId} {en : Nat → Nat} {A : Nat → Prop} {args : Array Value} {Post : XS → Prop} {K : Hd_X3_readWord_43 → XS → Prop} (X : XX p s m args c cX3_readWord 4 ww_X3_readWord_43 RX3 dC dI cI cT en A) (hr : meth.sig.returnType = none) (hlocks : meth.locks = false) (hK0 : ∀ (S : XS), K (.inl ()) S → ∀ (H : Heap) (locs : List Loc), va_P (dC, dI) vwCl (wX q cI cT S) H → va_D A (wX q cI cT S) → va_S A s.heap H locs → ∀ ls : Array Slot, lv_has ls 4 [(0, .ref (q 43))] → W p l e (headSpec ww_X3_readWord_43 ({ frames := 5, cells := 0, slots := 0, locals := 108 } : Room)).room s m args below meth c H locs 0 0 (MQ below (va_Qv Post (atX dC dI q cI cT A) A) args s 0 0 A) (F0 m 0 ls [])) (hK1 : ∀ (S : XS), K (.inr (.inl ())) S → ∀ (H : Heap) (locs : List Loc), va_P (dC, dI) vwCl (wX q cI cT S) H → va_D A (wX q cI cT S) → va_S A s.heap H locs → ∀ ls : Array Slot, lv_has ls 4 [(0, .ref (q 43))] → W p l e (headSpec ww_X3_readWord_43 ({ frames := 5, cells := 0, slots := 0, locals := 108 } : Room)).room s m args below meth c H locs 0 0 (MQ below (va_Qv Post (atX dC dI q cI cT A) A) args s 0 0 A) (F0 m 45 ls [])) (hK2 : ∀ (x1 : Int32) (x2 : Int32) (x3 : Int32) (S : XS), K (.inr (.inr (.inl (x1, x2, x3)))) S → ∀ (H : Heap) (locs : List Loc), va_P (dC, dI) vwCl (wX q cI cT S) H → va_D A (wX q cI cT S) → va_S A s.heap H locs → ∀ ls : Array Slot, lv_has ls 4 [(0, .ref (q 43)), (1, .int x1), (2, .int x2), (3, .int x3)] → W p l e (headSpec ww_X3_readWord_43 ({ frames := 5, cells := 0, slots := 0, locals := 108 } : Room)).room s m args below meth c H locs 0 0 (MQ below (va_Qv Post (atX dC dI q cI cT A) A) args s 0 0 A) (F0 m 57 ls [])) (hK3 : ∀ (x1 : Int32) (x2 : Int32) (x3 : Int32) (S : XS), K (.inr (.inr (.inr (x1, x2, x3)))) S → ∀ (H : Heap) (locs : List Loc), va_P (dC, dI) vwCl (wX q cI cT S) H → va_D A (wX q cI cT S) → va_S A s.heap H locs → ∀ ls : Array Slot, lv_has ls 4 [(0, .ref (q 43)), (1, .int x1), (2, .int x2), (3, .int x3)] → W p l e (headSpec ww_X3_readWord_43 ({ frames := 5, cells := 0, slots := 0, locals := 108 } : Room)).room s m args below meth c H locs 0 0 (MQ below (va_Qv Post (atX dC dI q cI cT A) A) args s 0 0 A) (F0 m 86 ls [])) (x1 : Int32) (x2 : Int32) (x3 : Int32) (S : XS) (h : B_X3_readWord_43 Post K (.inr (.inr (.inr (x1, x2, x3)))) S) : ∀ (H : Heap) (locs : List Loc), va_P (dC, dI) vwCl (wX q cI cT S) H → va_D A (wX q cI cT S) → va_S A s.heap H locs → ∀ ls : Array Slot, lv_has ls 4 [(0, .ref (q 43)), (1, .int x1), (2, .int x2), (3, .int x3)] → W p l e (headSpec ww_X3_readWord_43 ({ frames := 5, cells := 0, slots := 0, locals := 108 } : Room)).room s m args below meth c H locs 0 0 (MQ below (va_Qv Post (atX dC dI q cI cT A) A) args s 0 0 A) (F0 m 86 ls []) := by
  have hx := X.1
  have hb := X.2.1
  intro H locs hP hD hS ls hl
  have lk39 := X.2.2.2.2.1 (.fieldLink RX3 39 "BreathOnLoan$Parser" "next" "I") (inX 220 rfl)
  have lk28 := X.2.2.2.2.1 (.fieldLink RX3 28 "BreathOnLoan$Parser" "tape" "LBreathOnLoan$Tape;") (inX 174 rfl)
  have lk144 := X.2.2.2.2.1 (.fieldLink RX3 144 "BreathOnLoan$Tape" "length" "I") (inX 227 rfl)
  have lk149 := X.2.2.2.2.1 (.fieldLink RX3 149 "BreathOnLoan$Tape" "bytes" "[I") (inX 222 rfl)
  have lk60 := X.2.2.2.2.1 (.fieldLink RX3 60 "BreathOnLoan$Parser" "token" "I") (inX 228 rfl)
  dsimp only [B_X3_readWord_43] at h
  refine lv_aload_n hx hb (dk DX3_readWord 43 rfl) rfl (lv_at hl 0 rfl) ?_
  refine lv_iload_n hx hb (dk DX3_readWord 44 rfl) rfl (lv_at hl 2 rfl) ?_
  refine lv_iload_n hx hb (dk DX3_readWord 45 rfl) rfl (lv_at hl 3 rfl) ?_
  refine cXi (As := [.int x2, .int x3]) (rest := []) X (m_X3_isWord_43 (l := l) (dC := dC) (dI := dI) (q := q) (cI := cI) (cT := cT) (en := en) (sz := _) x2 x3 S h) (cwV 2 X.2.2.2.2.1 (gxV 235 236 237 231 226 rfl rfl rfl rfl rfl) rfl rfl rfl q_X3_isWord_43 ⟨Nat.le_of_ble_eq_true rfl, Nat.le_of_ble_eq_true rfl⟩) (rX_43 X hP) hP hD hS rfl hl.1 rfl (Nat.le_of_ble_eq_true rfl) (dk DX3_readWord 46 rfl) (fun r14 S13 H locs h hP hD hS => ?_)
  refine lv_if_eq (tgt := 103) hx hb (dk DX3_readWord 47 rfl) (by decide) (fun hc => ?_) (fun hc => ?_)
  · have h := h.1 hc
    obtain ⟨v15, ev15⟩ : ∃ y : Int32, y = x1 + 1 := ⟨_, rfl⟩
    have h := h v15 ev15
    refine lv_iinc (v := v15) (lv' := [(1, .int v15), (0, .ref (q 43)), (2, .int x2), (3, .int x3)]) hx hb (dk DX3_readWord 53 rfl) hl (k := 1) rfl (by rw [ev15]; rfl) (by decide) rfl (fun ls hl => ?_)
    refine lv_iload_n hx hb (dk DX3_readWord 54 rfl) rfl (lv_at hl 3 rfl) ?_
    refine lv_iconst (v := 1) hx hb (dk DX3_readWord 55 rfl) (by decide) ?_
    refine lv_iadd hx hb (dk DX3_readWord 56 rfl) ?_
    refine lv_topi (fun v16 ev16 => ?_)
    have h := h v16 ev16
    refine lv_istore_n (lv' := [(2, .int v16), (1, .int v15), (0, .ref (q 43)), (3, .int x3)]) hx hb (dk DX3_readWord 57 rfl) rfl hl (by decide) rfl (fun ls hl => ?_)
    obtain ⟨v17, ev17⟩ : ∃ y : Int32, y = x3 + 1 := ⟨_, rfl⟩
    have h := h v17 ev17
    refine lv_iinc (v := v17) (lv' := [(3, .int v17), (2, .int v16), (1, .int v15), (0, .ref (q 43))]) hx hb (dk DX3_readWord 58 rfl) hl (k := 3) rfl (by rw [ev17]; rfl) (by decide) rfl (fun ls hl => ?_)
    refine lv_goto (tgt := 57) hx hb (dk DX3_readWord 59 rfl) (by decide) ?_
    exact hK2 v15 v16 v17 S13 h _ _ hP hD hS ls (lv_sub hl [3, 2, 1, 0] rfl)
  · have h := h.2 hc
    refine lv_aload_n hx hb (dk DX3_readWord 48 rfl) rfl (lv_at hl 0 rfl) ?_
    refine lv_bipush (v := 32) hx hb (dk DX3_readWord 49 rfl) (by decide) ?_
    refine lv_iload_n hx hb (dk DX3_readWord 50 rfl) rfl (lv_at hl 1 rfl) ?_
    refine lv_iadd hx hb (dk DX3_readWord 51 rfl) ?_
    refine lv_topi (fun v18 ev18 => ?_)
    have h := h v18 ev18
    refine pX_43_5 X hP hD hS lk60 (dk DX3_readWord 52 rfl) (fun S19 eS19 H locs hP hD hS => ?_)
    have h := h S19 eS19
    obtain ⟨v20, ev20⟩ : ∃ y : Int32, y = x1 + 1 := ⟨_, rfl⟩
    have h := h v20 ev20
    refine lv_iinc (v := v20) (lv' := [(1, .int v20), (0, .ref (q 43)), (2, .int x2), (3, .int x3)]) hx hb (dk DX3_readWord 53 rfl) hl (k := 1) rfl (by rw [ev20]; rfl) (by decide) rfl (fun ls hl => ?_)
    refine lv_iload_n hx hb (dk DX3_readWord 54 rfl) rfl (lv_at hl 3 rfl) ?_
    refine lv_iconst (v := 1) hx hb (dk DX3_readWord 55 rfl) (by decide) ?_
    refine lv_iadd hx hb (dk DX3_readWord 56 rfl) ?_
    refine lv_topi (fun v21 ev21 => ?_)
    have h := h v21 ev21
    refine lv_istore_n (lv' := [(2, .int v21), (1, .int v20), (0, .ref (q 43)), (3, .int x3)]) hx hb (dk DX3_readWord 57 rfl) rfl hl (by decide) rfl (fun ls hl => ?_)
    obtain ⟨v22, ev22⟩ : ∃ y : Int32, y = x3 + 1 := ⟨_, rfl⟩
    have h := h v22 ev22
    refine lv_iinc (v := v22) (lv' := [(3, .int v22), (2, .int v21), (1, .int v20), (0, .ref (q 43))]) hx hb (dk DX3_readWord 58 rfl) hl (k := 3) rfl (by rw [ev22]; rfl) (by decide) rfl (fun ls hl => ?_)
    refine lv_goto (tgt := 57) hx hb (dk DX3_readWord 59 rfl) (by decide) ?_
    exact hK2 v20 v21 v22 S19 h _ _ hP hD hS ls (lv_sub hl [3, 2, 1, 0] rfl)
set_option maxHeartbeats 4000000 in
set_option maxRecDepth 100000 in
theorem m_X3_readWord_43 {l : Launch} {dC : Nat → ClassId} {dI : Nat → Nat → Nat} {q : Nat → Nat} {cI cT : ClassId} {en : Nat → Nat} {sz : Nat} {Post : XS → Prop} (S : XS) (h : VC_X3_readWord_43 Post S) : Met l yX3_readWord ww_X3_readWord_43 ({ frames := 5, cells := 0, slots := 0, locals := 108 } : Room) (va_Pc [.ref (q 43)] (preX dC dI q cI cT en S sz)) (va_Qv Post (atX dC dI q cI cT (va_A (wX q cI cT S) sz)) (va_A (wX q cI cT S) sz)) 0 0 (va_A (wX q cI cT S) sz) := by
  refine oX (cc := cX3_readWord) (maxL := 4) (ret := none) (Qc := fun A => va_Qv Post (atX dC dI q cI cT A) A) (own := RX3) (by decide) rfl (fun w h => List.mem_cons_of_mem _ (List.mem_append_right _ h)) rfl (Nat.le_of_ble_eq_true rfl) (fun p e s m below meth c A ls X hr hlocks hP hD hS hl => ?_)
  have hx := X.1
  have hb := X.2.1
  have hl : lv_has ls 4 [(0, .ref (q 43))] := hl
  have lk39 := X.2.2.2.2.1 (.fieldLink RX3 39 "BreathOnLoan$Parser" "next" "I") (inX 220 rfl)
  have lk28 := X.2.2.2.2.1 (.fieldLink RX3 28 "BreathOnLoan$Parser" "tape" "LBreathOnLoan$Tape;") (inX 174 rfl)
  have lk144 := X.2.2.2.2.1 (.fieldLink RX3 144 "BreathOnLoan$Tape" "length" "I") (inX 227 rfl)
  have lk149 := X.2.2.2.2.1 (.fieldLink RX3 149 "BreathOnLoan$Tape" "bytes" "[I") (inX 222 rfl)
  have lk60 := X.2.2.2.2.1 (.fieldLink RX3 60 "BreathOnLoan$Parser" "token" "I") (inX 228 rfl)
  generalize hargs : ([.ref (q 43)] : List Value).toArray = args at X ⊢
  have h := h (fun hd S => match hd with | (.inl ()) => ∀ (H : Heap) (locs : List Loc), va_P (dC, dI) vwCl (wX q cI cT S) H → va_D A (wX q cI cT S) → va_S A s.heap H locs → ∀ ls : Array Slot, lv_has ls 4 [(0, .ref (q 43))] → W p l e (headSpec ww_X3_readWord_43 ({ frames := 5, cells := 0, slots := 0, locals := 108 } : Room)).room s m args below meth c H locs 0 0 (MQ below (va_Qv Post (atX dC dI q cI cT A) A) args s 0 0 A) (F0 m 0 ls []) | (.inr (.inl ())) => ∀ (H : Heap) (locs : List Loc), va_P (dC, dI) vwCl (wX q cI cT S) H → va_D A (wX q cI cT S) → va_S A s.heap H locs → ∀ ls : Array Slot, lv_has ls 4 [(0, .ref (q 43))] → W p l e (headSpec ww_X3_readWord_43 ({ frames := 5, cells := 0, slots := 0, locals := 108 } : Room)).room s m args below meth c H locs 0 0 (MQ below (va_Qv Post (atX dC dI q cI cT A) A) args s 0 0 A) (F0 m 45 ls []) | (.inr (.inr (.inl (x1, x2, x3)))) => ∀ (H : Heap) (locs : List Loc), va_P (dC, dI) vwCl (wX q cI cT S) H → va_D A (wX q cI cT S) → va_S A s.heap H locs → ∀ ls : Array Slot, lv_has ls 4 [(0, .ref (q 43)), (1, .int x1), (2, .int x2), (3, .int x3)] → W p l e (headSpec ww_X3_readWord_43 ({ frames := 5, cells := 0, slots := 0, locals := 108 } : Room)).room s m args below meth c H locs 0 0 (MQ below (va_Qv Post (atX dC dI q cI cT A) A) args s 0 0 A) (F0 m 57 ls []) | (.inr (.inr (.inr (x1, x2, x3)))) => ∀ (H : Heap) (locs : List Loc), va_P (dC, dI) vwCl (wX q cI cT S) H → va_D A (wX q cI cT S) → va_S A s.heap H locs → ∀ ls : Array Slot, lv_has ls 4 [(0, .ref (q 43)), (1, .int x1), (2, .int x2), (3, .int x3)] → W p l e (headSpec ww_X3_readWord_43 ({ frames := 5, cells := 0, slots := 0, locals := 108 } : Room)).room s m args below meth c H locs 0 0 (MQ below (va_Qv Post (atX dC dI q cI cT A) A) args s 0 0 A) (F0 m 86 ls [])) ?_
  · skip
    exact h _ _ hP hD hS ls (lv_sub hl [0] rfl)
  · rintro (⟨⟩ | ⟨⟩ | ⟨x1, x2, x3⟩ | ⟨x1, x2, x3⟩) S hB
    · exact h_X3_readWord_43_0 X hr hlocks (hK0 := fun _ h => h) (hK1 := fun _ h => h) (hK2 := fun _ _ _ _ h => h) (hK3 := fun _ _ _ _ h => h)  S hB
    · exact h_X3_readWord_43_1 X hr hlocks (hK0 := fun _ h => h) (hK1 := fun _ h => h) (hK2 := fun _ _ _ _ h => h) (hK3 := fun _ _ _ _ h => h)  S hB
    · exact h_X3_readWord_43_2 X hr hlocks (hK0 := fun _ h => h) (hK1 := fun _ h => h) (hK2 := fun _ _ _ _ h => h) (hK3 := fun _ _ _ _ h => h) x1 x2 x3 S hB
    · exact h_X3_readWord_43_3 X hr hlocks (hK0 := fun _ h => h) (hK1 := fun _ h => h) (hK2 := fun _ _ _ _ h => h) (hK3 := fun _ _ _ _ h => h) x1 x2 x3 S hB

def ww_X3_advance_43 : List Cond := .code yX3_advance cX3_advance 2 none :: (WdX ++ WsX)
theorem q_X3_advance_43 : yX3_advance.cls = RX3 ∧ yX3_advance.cls ≠ "java/lang/invoke/MethodHandle" ∧ yX3_advance.cls ≠ "java/lang/invoke/VarHandle" ∧ (parseMethodDescriptor yX3_advance.desc).map (fun d => d.parameters.length) = some 0 := by decide +kernel
abbrev Hd_X3_advance_43 : Type := Unit ⊕ Unit
def B_X3_advance_43 (Post : XS → Prop) (K : Hd_X3_advance_43 → XS → Prop) : Hd_X3_advance_43 → XS → Prop
  | (.inl ()), S => (((S.1 1313) ≤ (S.1 1380) → K (.inr ()) S) ∧ (¬ (S.1 1313) ≤ (S.1 1380) → vp_in (S.1 1380) 300 ∧ ((((S.2.1 42) (S.1 1380).toNatClampNeg) = 32 → ∀ v1 : Int32, v1 = (S.1 1380) + 1 → ∀ S2 : XS, S2 = xI S 1380 v1 → K (.inl ()) S2) ∧ (¬ ((S.2.1 42) (S.1 1380).toNatClampNeg) = 32 → vp_in (S.1 1380) 300 ∧ ((¬ ((S.2.1 42) (S.1 1380).toNatClampNeg) = 10 → K (.inr ()) S) ∧ (((S.2.1 42) (S.1 1380).toNatClampNeg) = 10 → ∀ v3 : Int32, v3 = (S.1 1380) + 1 → ∀ S4 : XS, S4 = xI S 1380 v3 → K (.inl ()) S4))))))
  | (.inr ()), S => ∀ v5 : Int32, v5 = (S.1 1380) → ∀ S6 : XS, S6 = xI S 1382 v5 → (((S6.1 1380) < (S6.1 1313) → vp_in (S6.1 1380) 300 ∧ ∀ v7 : Int32, v7 = (S6.2.1 42) (S6.1 1380).toNatClampNeg → VC_X3_isLetter (fun r9 S8 => ((r9 = 0 → VC_X3_isDigit (fun r11 S10 => ((r11 = 0 → VC_X3_readSign_43 (fun S12 => Post S12) v7 S10) ∧ (¬ r11 = 0 → VC_X3_readNumber_43 (fun S13 => Post S13) S10))) v7 S8) ∧ (¬ r9 = 0 → VC_X3_readWord_43 (fun S14 => Post S14) S8))) v7 S6) ∧ (¬ (S6.1 1380) < (S6.1 1313) → ∀ S15 : XS, S15 = xI S6 1381 16 → Post S15))
def VC_X3_advance_43 (Post : XS → Prop) (S : XS) : Prop := ∀ K : Hd_X3_advance_43 → XS → Prop, (∀ h S, B_X3_advance_43 Post K h S → K h S) → (((S.1 1377) = 0 → K (.inl ()) S) ∧ (¬ (S.1 1377) = 0 → Post S))
set_option maxHeartbeats 4000000 in
set_option maxRecDepth 100000 in
theorem h_X3_advance_43_0 {p : Program} {l : Launch} {e : Env} {s : State} {m : MethodId} {below : List Frame} {meth : Method} {c : Code} {dC : Nat → ClassId} {dI : Nat → Nat → Nat} {q : Nat → Nat} {cI cT : ClassId} {en : Nat → Nat} {A : Nat → Prop} {args : Array Value} {Post : XS → Prop} {K : Hd_X3_advance_43 → XS → Prop} (X : XX p s m args c cX3_advance 2 ww_X3_advance_43 RX3 dC dI cI cT en A) (hr : meth.sig.returnType = none) (hlocks : meth.locks = false) (hK0 : ∀ (S : XS), K (.inl ()) S → ∀ (H : Heap) (locs : List Loc), va_P (dC, dI) vwCl (wX q cI cT S) H → va_D A (wX q cI cT S) → va_S A s.heap H locs → ∀ ls : Array Slot, lv_has ls 2 [(0, .ref (q 43))] → W p l e (headSpec ww_X3_advance_43 ({ frames := 6, cells := 0, slots := 0, locals := 131 } : Room)).room s m args below meth c H locs 0 0 (MQ below (va_Qv Post (atX dC dI q cI cT A) A) args s 0 0 A) (F0 m 8 ls [])) (hK1 : ∀ (S : XS), K (.inr ()) S → ∀ (H : Heap) (locs : List Loc), va_P (dC, dI) vwCl (wX q cI cT S) H → va_D A (wX q cI cT S) → va_S A s.heap H locs → ∀ ls : Array Slot, lv_has ls 2 [(0, .ref (q 43))] → W p l e (headSpec ww_X3_advance_43 ({ frames := 6, cells := 0, slots := 0, locals := 131 } : Room)).room s m args below meth c H locs 0 0 (MQ below (va_Qv Post (atX dC dI q cI cT A) A) args s 0 0 A) (F0 m 69 ls [])) (S : XS) (h : B_X3_advance_43 Post K (.inl ()) S) : ∀ (H : Heap) (locs : List Loc), va_P (dC, dI) vwCl (wX q cI cT S) H → va_D A (wX q cI cT S) → va_S A s.heap H locs → ∀ ls : Array Slot, lv_has ls 2 [(0, .ref (q 43))] → W p l e (headSpec ww_X3_advance_43 ({ frames := 6, cells := 0, slots := 0, locals := 131 } : Room)).room s m args below meth c H locs 0 0 (MQ below (va_Qv Post (atX dC dI q cI cT A) A) args s 0 0 A) (F0 m 8 ls []) := by
  have hx := X.1
  have hb := X.2.1
  intro H locs hP hD hS ls hl
  have lk36 := X.2.2.2.2.1 (.fieldLink RX3 36 "BreathOnLoan$Parser" "faultNumber" "I") (inX 302 rfl)
  have lk39 := X.2.2.2.2.1 (.fieldLink RX3 39 "BreathOnLoan$Parser" "next" "I") (inX 220 rfl)
  have lk28 := X.2.2.2.2.1 (.fieldLink RX3 28 "BreathOnLoan$Parser" "tape" "LBreathOnLoan$Tape;") (inX 174 rfl)
  have lk144 := X.2.2.2.2.1 (.fieldLink RX3 144 "BreathOnLoan$Tape" "length" "I") (inX 227 rfl)
  have lk149 := X.2.2.2.2.1 (.fieldLink RX3 149 "BreathOnLoan$Tape" "bytes" "[I") (inX 222 rfl)
  have lk141 := X.2.2.2.2.1 (.fieldLink RX3 141 "BreathOnLoan$Parser" "place" "I") (inX 221 rfl)
  have lk60 := X.2.2.2.2.1 (.fieldLink RX3 60 "BreathOnLoan$Parser" "token" "I") (inX 228 rfl)
  dsimp only [B_X3_advance_43] at h
  refine lv_aload_n hx hb (dk DX3_advance 4 rfl) rfl (lv_at hl 0 rfl) ?_
  refine gX_43 X hP 4 (by decide) rfl lk39 (dk DX3_advance 5 rfl) ?_
  refine lv_aload_n hx hb (dk DX3_advance 6 rfl) rfl (lv_at hl 0 rfl) ?_
  refine gX_43 X hP 3 (by decide) rfl lk28 (dk DX3_advance 7 rfl) ?_
  refine gX_41 X hP 1 (by decide) rfl lk144 (dk DX3_advance 8 rfl) ?_
  refine lv_icmp_ge (tgt := 69) hx hb (dk DX3_advance 9 rfl) (by decide) (fun hc => ?_) (fun hc => ?_)
  · have h := h.1 hc
    exact hK1 S h _ _ hP hD hS ls (lv_sub hl [0] rfl)
  · have h := h.2 hc
    refine lv_aload_n hx hb (dk DX3_advance 10 rfl) rfl (lv_at hl 0 rfl) ?_
    refine gX_43 X hP 3 (by decide) rfl lk28 (dk DX3_advance 11 rfl) ?_
    refine gX_41 X hP 0 (by decide) rfl lk149 (dk DX3_advance 12 rfl) ?_
    refine lv_aload_n hx hb (dk DX3_advance 13 rfl) rfl (lv_at hl 0 rfl) ?_
    refine gX_43 X hP 4 (by decide) rfl lk39 (dk DX3_advance 14 rfl) ?_
    obtain ⟨hin, h⟩ := h
    refine ldX_42 X hP hin (dk DX3_advance 15 rfl) ?_
    refine lv_bipush (v := 32) hx hb (dk DX3_advance 16 rfl) (by decide) ?_
    refine lv_icmp_eq (tgt := 56) hx hb (dk DX3_advance 17 rfl) (by decide) (fun hc => ?_) (fun hc => ?_)
    · have h := h.1 hc
      refine lv_aload_n hx hb (dk DX3_advance 26 rfl) rfl (lv_at hl 0 rfl) ?_
      refine lv_dup hx hb (dk DX3_advance 27 rfl) rfl ?_
      refine gX_43 X hP 4 (by decide) rfl lk39 (dk DX3_advance 28 rfl) ?_
      refine lv_iconst (v := 1) hx hb (dk DX3_advance 29 rfl) (by decide) ?_
      refine lv_iadd hx hb (dk DX3_advance 30 rfl) ?_
      refine lv_topi (fun v1 ev1 => ?_)
      have h := h v1 ev1
      refine pX_43_4 X hP hD hS lk39 (dk DX3_advance 31 rfl) (fun S2 eS2 H locs hP hD hS => ?_)
      have h := h S2 eS2
      refine lv_goto (tgt := 8) hx hb (dk DX3_advance 32 rfl) (by decide) ?_
      exact hK0 S2 h _ _ hP hD hS ls (lv_sub hl [0] rfl)
    · have h := h.2 hc
      refine lv_aload_n hx hb (dk DX3_advance 18 rfl) rfl (lv_at hl 0 rfl) ?_
      refine gX_43 X hP 3 (by decide) rfl lk28 (dk DX3_advance 19 rfl) ?_
      refine gX_41 X hP 0 (by decide) rfl lk149 (dk DX3_advance 20 rfl) ?_
      refine lv_aload_n hx hb (dk DX3_advance 21 rfl) rfl (lv_at hl 0 rfl) ?_
      refine gX_43 X hP 4 (by decide) rfl lk39 (dk DX3_advance 22 rfl) ?_
      obtain ⟨hin, h⟩ := h
      refine ldX_42 X hP hin (dk DX3_advance 23 rfl) ?_
      refine lv_bipush (v := 10) hx hb (dk DX3_advance 24 rfl) (by decide) ?_
      refine lv_icmp_ne (tgt := 69) hx hb (dk DX3_advance 25 rfl) (by decide) (fun hc => ?_) (fun hc => ?_)
      · have h := h.1 hc
        exact hK1 S h _ _ hP hD hS ls (lv_sub hl [0] rfl)
      · have h := h.2 hc
        refine lv_aload_n hx hb (dk DX3_advance 26 rfl) rfl (lv_at hl 0 rfl) ?_
        refine lv_dup hx hb (dk DX3_advance 27 rfl) rfl ?_
        refine gX_43 X hP 4 (by decide) rfl lk39 (dk DX3_advance 28 rfl) ?_
        refine lv_iconst (v := 1) hx hb (dk DX3_advance 29 rfl) (by decide) ?_
        refine lv_iadd hx hb (dk DX3_advance 30 rfl) ?_
        refine lv_topi (fun v3 ev3 => ?_)
        have h := h v3 ev3
        refine pX_43_4 X hP hD hS lk39 (dk DX3_advance 31 rfl) (fun S4 eS4 H locs hP hD hS => ?_)
        have h := h S4 eS4
        refine lv_goto (tgt := 8) hx hb (dk DX3_advance 32 rfl) (by decide) ?_
        exact hK0 S4 h _ _ hP hD hS ls (lv_sub hl [0] rfl)
set_option maxHeartbeats 4000000 in
set_option maxRecDepth 100000 in
theorem h_X3_advance_43_1 {p : Program} {l : Launch} {e : Env} {s : State} {m : MethodId} {below : List Frame} {meth : Method} {c : Code} {dC : Nat → ClassId} {dI : Nat → Nat → Nat} {q : Nat → Nat} {cI cT : ClassId} {en : Nat → Nat} {A : Nat → Prop} {args : Array Value} {Post : XS → Prop} {K : Hd_X3_advance_43 → XS → Prop} (X : XX p s m args c cX3_advance 2 ww_X3_advance_43 RX3 dC dI cI cT en A) (hr : meth.sig.returnType = none) (hlocks : meth.locks = false) (hK0 : ∀ (S : XS), K (.inl ()) S → ∀ (H : Heap) (locs : List Loc), va_P (dC, dI) vwCl (wX q cI cT S) H → va_D A (wX q cI cT S) → va_S A s.heap H locs → ∀ ls : Array Slot, lv_has ls 2 [(0, .ref (q 43))] → W p l e (headSpec ww_X3_advance_43 ({ frames := 6, cells := 0, slots := 0, locals := 131 } : Room)).room s m args below meth c H locs 0 0 (MQ below (va_Qv Post (atX dC dI q cI cT A) A) args s 0 0 A) (F0 m 8 ls [])) (hK1 : ∀ (S : XS), K (.inr ()) S → ∀ (H : Heap) (locs : List Loc), va_P (dC, dI) vwCl (wX q cI cT S) H → va_D A (wX q cI cT S) → va_S A s.heap H locs → ∀ ls : Array Slot, lv_has ls 2 [(0, .ref (q 43))] → W p l e (headSpec ww_X3_advance_43 ({ frames := 6, cells := 0, slots := 0, locals := 131 } : Room)).room s m args below meth c H locs 0 0 (MQ below (va_Qv Post (atX dC dI q cI cT A) A) args s 0 0 A) (F0 m 69 ls [])) (S : XS) (h : B_X3_advance_43 Post K (.inr ()) S) : ∀ (H : Heap) (locs : List Loc), va_P (dC, dI) vwCl (wX q cI cT S) H → va_D A (wX q cI cT S) → va_S A s.heap H locs → ∀ ls : Array Slot, lv_has ls 2 [(0, .ref (q 43))] → W p l e (headSpec ww_X3_advance_43 ({ frames := 6, cells := 0, slots := 0, locals := 131 } : Room)).room s m args below meth c H locs 0 0 (MQ below (va_Qv Post (atX dC dI q cI cT A) A) args s 0 0 A) (F0 m 69 ls []) := by
  have hx := X.1
  have hb := X.2.1
  intro H locs hP hD hS ls hl
  have lk36 := X.2.2.2.2.1 (.fieldLink RX3 36 "BreathOnLoan$Parser" "faultNumber" "I") (inX 302 rfl)
  have lk39 := X.2.2.2.2.1 (.fieldLink RX3 39 "BreathOnLoan$Parser" "next" "I") (inX 220 rfl)
  have lk28 := X.2.2.2.2.1 (.fieldLink RX3 28 "BreathOnLoan$Parser" "tape" "LBreathOnLoan$Tape;") (inX 174 rfl)
  have lk144 := X.2.2.2.2.1 (.fieldLink RX3 144 "BreathOnLoan$Tape" "length" "I") (inX 227 rfl)
  have lk149 := X.2.2.2.2.1 (.fieldLink RX3 149 "BreathOnLoan$Tape" "bytes" "[I") (inX 222 rfl)
  have lk141 := X.2.2.2.2.1 (.fieldLink RX3 141 "BreathOnLoan$Parser" "place" "I") (inX 221 rfl)
  have lk60 := X.2.2.2.2.1 (.fieldLink RX3 60 "BreathOnLoan$Parser" "token" "I") (inX 228 rfl)
  dsimp only [B_X3_advance_43] at h
  refine lv_aload_n hx hb (dk DX3_advance 33 rfl) rfl (lv_at hl 0 rfl) ?_
  refine lv_aload_n hx hb (dk DX3_advance 34 rfl) rfl (lv_at hl 0 rfl) ?_
  refine gX_43 X hP 4 (by decide) rfl lk39 (dk DX3_advance 35 rfl) ?_
  refine lv_topi (fun v5 ev5 => ?_)
  have h := h v5 ev5
  refine pX_43_6 X hP hD hS lk141 (dk DX3_advance 36 rfl) (fun S6 eS6 H locs hP hD hS => ?_)
  have h := h S6 eS6
  refine lv_aload_n hx hb (dk DX3_advance 37 rfl) rfl (lv_at hl 0 rfl) ?_
  refine gX_43 X hP 4 (by decide) rfl lk39 (dk DX3_advance 38 rfl) ?_
  refine lv_aload_n hx hb (dk DX3_advance 39 rfl) rfl (lv_at hl 0 rfl) ?_
  refine gX_43 X hP 3 (by decide) rfl lk28 (dk DX3_advance 40 rfl) ?_
  refine gX_41 X hP 1 (by decide) rfl lk144 (dk DX3_advance 41 rfl) ?_
  refine lv_icmp_lt (tgt := 98) hx hb (dk DX3_advance 42 rfl) (by decide) (fun hc => ?_) (fun hc => ?_)
  · have h := h.1 hc
    refine lv_aload_n hx hb (dk DX3_advance 47 rfl) rfl (lv_at hl 0 rfl) ?_
    refine gX_43 X hP 3 (by decide) rfl lk28 (dk DX3_advance 48 rfl) ?_
    refine gX_41 X hP 0 (by decide) rfl lk149 (dk DX3_advance 49 rfl) ?_
    refine lv_aload_n hx hb (dk DX3_advance 50 rfl) rfl (lv_at hl 0 rfl) ?_
    refine gX_43 X hP 4 (by decide) rfl lk39 (dk DX3_advance 51 rfl) ?_
    obtain ⟨hin, h⟩ := h
    refine ldX_42 X hP hin (dk DX3_advance 52 rfl) ?_
    refine lv_topi (fun v7 ev7 => ?_)
    have h := h v7 ev7
    refine lv_istore_n (lv' := [(1, .int v7), (0, .ref (q 43))]) hx hb (dk DX3_advance 53 rfl) rfl hl (by decide) rfl (fun ls hl => ?_)
    refine lv_iload_n hx hb (dk DX3_advance 54 rfl) rfl (lv_at hl 0 rfl) ?_
    refine cXsi (As := [.int v7]) (rest := []) X (m_X3_isLetter (l := l) (dC := dC) (dI := dI) (q := q) (cI := cI) (cT := cT) (en := en) (sz := _) v7 S6 h) (va_cwS 1 X.2.2.2.2.1 (gxS 229 230 231 176 rfl rfl rfl rfl) rfl rfl rfl q_X3_isLetter ⟨Nat.le_of_ble_eq_true rfl, Nat.le_of_ble_eq_true rfl⟩) hP hD hS rfl hl.1 rfl (Nat.le_of_ble_eq_true rfl) (dk DX3_advance 55 rfl) (fun r9 S8 H locs h hP hD hS => ?_)
    refine lv_if_eq (tgt := 125) hx hb (dk DX3_advance 56 rfl) (by decide) (fun hc => ?_) (fun hc => ?_)
    · have h := h.1 hc
      refine lv_iload_n hx hb (dk DX3_advance 60 rfl) rfl (lv_at hl 0 rfl) ?_
      refine cXsi (As := [.int v7]) (rest := []) X (m_X3_isDigit (l := l) (dC := dC) (dI := dI) (q := q) (cI := cI) (cT := cT) (en := en) (sz := _) v7 S8 h) (va_cwS 1 X.2.2.2.2.1 (gxS 243 244 231 239 rfl rfl rfl rfl) rfl rfl rfl q_X3_isDigit ⟨Nat.le_of_ble_eq_true rfl, Nat.le_of_ble_eq_true rfl⟩) hP hD hS rfl hl.1 rfl (Nat.le_of_ble_eq_true rfl) (dk DX3_advance 61 rfl) (fun r11 S10 H locs h hP hD hS => ?_)
      refine lv_if_eq (tgt := 139) hx hb (dk DX3_advance 62 rfl) (by decide) (fun hc => ?_) (fun hc => ?_)
      · have h := h.1 hc
        refine lv_aload_n hx hb (dk DX3_advance 66 rfl) rfl (lv_at hl 1 rfl) ?_
        refine lv_iload_n hx hb (dk DX3_advance 67 rfl) rfl (lv_at hl 0 rfl) ?_
        refine cXv (As := [.int v7]) (rest := []) X (m_X3_readSign_43 (l := l) (dC := dC) (dI := dI) (q := q) (cI := cI) (cT := cT) (en := en) (sz := _) v7 S10 h) (cwV 1 X.2.2.2.2.1 (gxV 309 310 311 231 301 rfl rfl rfl rfl rfl) rfl rfl rfl q_X3_readSign_43 ⟨Nat.le_of_ble_eq_true rfl, Nat.le_of_ble_eq_true rfl⟩) (rX_43 X hP) hP hD hS rfl hl.1 rfl (Nat.le_of_ble_eq_true rfl) (dk DX3_advance 68 rfl) (fun S12 H locs h hP hD hS => ?_)
        exact W.vret hx hb hr (fun t ht hW => ⟨⟨_, rfl, h, by rw [ht]; exact hP, va_K.moved hW.alike X.2.2.2.2.2.2.1, hD⟩, hS.F ht⟩) hS.2.2 (dk DX3_advance 69 rfl)
      · have h := h.2 hc
        refine lv_aload_n hx hb (dk DX3_advance 63 rfl) rfl (lv_at hl 1 rfl) ?_
        refine cXv (As := []) (rest := []) X (m_X3_readNumber_43 (l := l) (dC := dC) (dI := dI) (q := q) (cI := cI) (cT := cT) (en := en) (sz := _) S10 h) (cwV 0 X.2.2.2.2.1 (gxV 306 307 308 231 240 rfl rfl rfl rfl rfl) rfl rfl rfl q_X3_readNumber_43 ⟨Nat.le_of_ble_eq_true rfl, Nat.le_of_ble_eq_true rfl⟩) (rX_43 X hP) hP hD hS rfl hl.1 rfl (Nat.le_of_ble_eq_true rfl) (dk DX3_advance 64 rfl) (fun S13 H locs h hP hD hS => ?_)
        refine lv_goto (tgt := 144) hx hb (dk DX3_advance 65 rfl) (by decide) ?_
        exact W.vret hx hb hr (fun t ht hW => ⟨⟨_, rfl, h, by rw [ht]; exact hP, va_K.moved hW.alike X.2.2.2.2.2.2.1, hD⟩, hS.F ht⟩) hS.2.2 (dk DX3_advance 69 rfl)
    · have h := h.2 hc
      refine lv_aload_n hx hb (dk DX3_advance 57 rfl) rfl (lv_at hl 1 rfl) ?_
      refine cXv (As := []) (rest := []) X (m_X3_readWord_43 (l := l) (dC := dC) (dI := dI) (q := q) (cI := cI) (cT := cT) (en := en) (sz := _) S8 h) (cwV 0 X.2.2.2.2.1 (gxV 303 304 305 231 238 rfl rfl rfl rfl rfl) rfl rfl rfl q_X3_readWord_43 ⟨Nat.le_of_ble_eq_true rfl, Nat.le_of_ble_eq_true rfl⟩) (rX_43 X hP) hP hD hS rfl hl.1 rfl (Nat.le_of_ble_eq_true rfl) (dk DX3_advance 58 rfl) (fun S14 H locs h hP hD hS => ?_)
      refine lv_goto (tgt := 144) hx hb (dk DX3_advance 59 rfl) (by decide) ?_
      exact W.vret hx hb hr (fun t ht hW => ⟨⟨_, rfl, h, by rw [ht]; exact hP, va_K.moved hW.alike X.2.2.2.2.2.2.1, hD⟩, hS.F ht⟩) hS.2.2 (dk DX3_advance 69 rfl)
  · have h := h.2 hc
    refine lv_aload_n hx hb (dk DX3_advance 43 rfl) rfl (lv_at hl 0 rfl) ?_
    refine lv_bipush (v := 16) hx hb (dk DX3_advance 44 rfl) (by decide) ?_
    refine pX_43_5 X hP hD hS lk60 (dk DX3_advance 45 rfl) (fun S15 eS15 H locs hP hD hS => ?_)
    have h := h S15 eS15
    exact W.vret hx hb hr (fun t ht hW => ⟨⟨_, rfl, h, by rw [ht]; exact hP, va_K.moved hW.alike X.2.2.2.2.2.2.1, hD⟩, hS.F ht⟩) hS.2.2 (dk DX3_advance 46 rfl)
set_option maxHeartbeats 4000000 in
set_option maxRecDepth 100000 in
theorem m_X3_advance_43 {l : Launch} {dC : Nat → ClassId} {dI : Nat → Nat → Nat} {q : Nat → Nat} {cI cT : ClassId} {en : Nat → Nat} {sz : Nat} {Post : XS → Prop} (S : XS) (h : VC_X3_advance_43 Post S) : Met l yX3_advance ww_X3_advance_43 ({ frames := 6, cells := 0, slots := 0, locals := 131 } : Room) (va_Pc [.ref (q 43)] (preX dC dI q cI cT en S sz)) (va_Qv Post (atX dC dI q cI cT (va_A (wX q cI cT S) sz)) (va_A (wX q cI cT S) sz)) 0 0 (va_A (wX q cI cT S) sz) := by
  refine oX (cc := cX3_advance) (maxL := 2) (ret := none) (Qc := fun A => va_Qv Post (atX dC dI q cI cT A) A) (own := RX3) (by decide) rfl (fun w h => List.mem_cons_of_mem _ (List.mem_append_right _ h)) rfl (Nat.le_of_ble_eq_true rfl) (fun p e s m below meth c A ls X hr hlocks hP hD hS hl => ?_)
  have hx := X.1
  have hb := X.2.1
  have hl : lv_has ls 2 [(0, .ref (q 43))] := hl
  have lk36 := X.2.2.2.2.1 (.fieldLink RX3 36 "BreathOnLoan$Parser" "faultNumber" "I") (inX 302 rfl)
  have lk39 := X.2.2.2.2.1 (.fieldLink RX3 39 "BreathOnLoan$Parser" "next" "I") (inX 220 rfl)
  have lk28 := X.2.2.2.2.1 (.fieldLink RX3 28 "BreathOnLoan$Parser" "tape" "LBreathOnLoan$Tape;") (inX 174 rfl)
  have lk144 := X.2.2.2.2.1 (.fieldLink RX3 144 "BreathOnLoan$Tape" "length" "I") (inX 227 rfl)
  have lk149 := X.2.2.2.2.1 (.fieldLink RX3 149 "BreathOnLoan$Tape" "bytes" "[I") (inX 222 rfl)
  have lk141 := X.2.2.2.2.1 (.fieldLink RX3 141 "BreathOnLoan$Parser" "place" "I") (inX 221 rfl)
  have lk60 := X.2.2.2.2.1 (.fieldLink RX3 60 "BreathOnLoan$Parser" "token" "I") (inX 228 rfl)
  generalize hargs : ([.ref (q 43)] : List Value).toArray = args at X ⊢
  have h := h (fun hd S => match hd with | (.inl ()) => ∀ (H : Heap) (locs : List Loc), va_P (dC, dI) vwCl (wX q cI cT S) H → va_D A (wX q cI cT S) → va_S A s.heap H locs → ∀ ls : Array Slot, lv_has ls 2 [(0, .ref (q 43))] → W p l e (headSpec ww_X3_advance_43 ({ frames := 6, cells := 0, slots := 0, locals := 131 } : Room)).room s m args below meth c H locs 0 0 (MQ below (va_Qv Post (atX dC dI q cI cT A) A) args s 0 0 A) (F0 m 8 ls []) | (.inr ()) => ∀ (H : Heap) (locs : List Loc), va_P (dC, dI) vwCl (wX q cI cT S) H → va_D A (wX q cI cT S) → va_S A s.heap H locs → ∀ ls : Array Slot, lv_has ls 2 [(0, .ref (q 43))] → W p l e (headSpec ww_X3_advance_43 ({ frames := 6, cells := 0, slots := 0, locals := 131 } : Room)).room s m args below meth c H locs 0 0 (MQ below (va_Qv Post (atX dC dI q cI cT A) A) args s 0 0 A) (F0 m 69 ls [])) ?_
  · skip
    refine lv_aload_n hx hb (dk DX3_advance 0 rfl) rfl (lv_at hl 0 rfl) ?_
    refine gX_43 X hP 1 (by decide) rfl lk36 (dk DX3_advance 1 rfl) ?_
    refine lv_if_eq (tgt := 8) hx hb (dk DX3_advance 2 rfl) (by decide) (fun hc => ?_) (fun hc => ?_)
    · have h := h.1 hc
      exact h _ _ hP hD hS ls (lv_sub hl [0] rfl)
    · have h := h.2 hc
      exact W.vret hx hb hr (fun t ht hW => ⟨⟨_, rfl, h, by rw [ht]; exact hP, va_K.moved hW.alike X.2.2.2.2.2.2.1, hD⟩, hS.F ht⟩) hS.2.2 (dk DX3_advance 3 rfl)
  · rintro (⟨⟩ | ⟨⟩) S hB
    · exact h_X3_advance_43_0 X hr hlocks (hK0 := fun _ h => h) (hK1 := fun _ h => h)  S hB
    · exact h_X3_advance_43_1 X hr hlocks (hK0 := fun _ h => h) (hK1 := fun _ h => h)  S hB

def ww_X3_parseName_43 : List Cond := .code yX3_parseName cX3_parseName 2 none :: (WdX ++ WsX)
theorem q_X3_parseName_43 : yX3_parseName.cls = RX3 ∧ yX3_parseName.cls ≠ "java/lang/invoke/MethodHandle" ∧ yX3_parseName.cls ≠ "java/lang/invoke/VarHandle" ∧ (parseMethodDescriptor yX3_parseName.desc).map (fun d => d.parameters.length) = some 0 := by decide +kernel
def VC_X3_parseName_43 (Post : XS → Prop) (S : XS) : Prop := ∀ v1 : Int32, v1 = (S.1 1381) - 46 → VC_X11_within (fun r2 => ((¬ r2 = 0 → vp_in (S.1 1385) 4 ∧ ((¬ (((eN.getD (S.1 1385).toNatClampNeg 0) >>> (v1 &&& 31)) &&& 1) = 0 → VC_X3_emit_43 (fun r4 S3 => VC_X3_advance_43 (fun S5 => Post S5) S3) 61 v1 S) ∧ ((((eN.getD (S.1 1385).toNatClampNeg 0) >>> (v1 &&& 31)) &&& 1) = 0 → VC_X3_fail_43 (fun S6 => Post S6) 5 S))) ∧ (r2 = 0 → VC_X3_fail_43 (fun S7 => Post S7) 1 S))) v1 0 10
set_option maxHeartbeats 4000000 in
set_option maxRecDepth 100000 in
theorem m_X3_parseName_43 {l : Launch} {dC : Nat → ClassId} {dI : Nat → Nat → Nat} {q : Nat → Nat} {cI cT : ClassId} {en : Nat → Nat} {sz : Nat} {Post : XS → Prop} (S : XS) (h : VC_X3_parseName_43 Post S) : Met l yX3_parseName ww_X3_parseName_43 ({ frames := 7, cells := 0, slots := 0, locals := 152 } : Room) (va_Pc [.ref (q 43)] (preX dC dI q cI cT en S sz)) (va_Qv Post (atX dC dI q cI cT (va_A (wX q cI cT S) sz)) (va_A (wX q cI cT S) sz)) 0 0 (va_A (wX q cI cT S) sz) := by
  refine oX (cc := cX3_parseName) (maxL := 2) (ret := none) (Qc := fun A => va_Qv Post (atX dC dI q cI cT A) A) (own := RX3) (by decide) rfl (fun w h => List.mem_cons_of_mem _ (List.mem_append_right _ h)) rfl (Nat.le_of_ble_eq_true rfl) (fun p e s m below meth c A ls X hr hlocks hP hD hS hl => ?_)
  have hx := X.1
  have hb := X.2.1
  have hl : lv_has ls 2 [(0, .ref (q 43))] := hl
  have lk60 := X.2.2.2.2.1 (.fieldLink RX3 60 "BreathOnLoan$Parser" "token" "I") (inX 228 rfl)
  have lk84 := X.2.2.2.2.1 (.fieldLink RX3 84 "BreathOnLoan$Parser" "law" "I") (inX 329 rfl)
  dsimp only [VC_X3_parseName_43] at h
  refine lv_aload_n hx hb (dk DX3_parseName 0 rfl) rfl (lv_at hl 0 rfl) ?_
  refine gX_43 X hP 5 (by decide) rfl lk60 (dk DX3_parseName 1 rfl) ?_
  refine lv_bipush (v := 46) hx hb (dk DX3_parseName 2 rfl) (by decide) ?_
  refine lv_isub hx hb (dk DX3_parseName 3 rfl) ?_
  refine lv_topi (fun v1 ev1 => ?_)
  have h := h v1 ev1
  refine lv_istore_n (lv' := [(1, .int v1), (0, .ref (q 43))]) hx hb (dk DX3_parseName 4 rfl) rfl hl (by decide) rfl (fun ls hl => ?_)
  refine lv_iload_n hx hb (dk DX3_parseName 5 rfl) rfl (lv_at hl 0 rfl) ?_
  refine lv_iconst (v := 0) hx hb (dk DX3_parseName 6 rfl) (by decide) ?_
  refine lv_bipush (v := 10) hx hb (dk DX3_parseName 7 rfl) (by decide) ?_
  refine cNi (As := [.int v1, .int 0, .int 10]) (rest := []) ⟨X.1, X.2.1, X.2.2.1, X.2.2.2.1, X.2.2.2.2.1⟩ (m_X11_within (l := l) v1 0 10 h) ⟨va_cnB (host := "BreathOnLoan") 3 X.2.2.2.2.1 (gxB (List.mem_of_getElem? (i := 324) rfl)) rfl rfl rfl (X.2.2.2.2.2.2.2.2.1.1 _ (List.mem_of_getElem? (i := 0) rfl)) (X.2.2.2.2.1 (.initialized RX11) (inX 16 rfl)) q_X11_within ⟨Nat.le_of_ble_eq_true rfl, Nat.le_of_ble_eq_true rfl⟩, X.2.2.2.2.1 (.static yX11_within) (inX 327 rfl), trivial⟩ rfl hl.1 rfl (Nat.le_of_ble_eq_true rfl) (dk DX3_parseName 8 rfl) (fun r2 h => ?_)
  refine lv_if_ne (tgt := 26) hx hb (dk DX3_parseName 9 rfl) (by decide) (fun hc => ?_) (fun hc => ?_)
  · have h := h.1 hc
    refine gsE_n X hS (dk DX3_parseName 14 rfl) ?_
    refine lv_aload_n hx hb (dk DX3_parseName 15 rfl) rfl (lv_at hl 1 rfl) ?_
    refine gX_43 X hP 9 (by decide) rfl lk84 (dk DX3_parseName 16 rfl) ?_
    obtain ⟨hin, h⟩ := h
    refine ldE_5 X hS hin (dk DX3_parseName 17 rfl) ?_
    refine lv_iload_n hx hb (dk DX3_parseName 18 rfl) rfl (lv_at hl 0 rfl) ?_
    refine lv_ishr hx hb (dk DX3_parseName 19 rfl) ?_
    refine lv_iconst (v := 1) hx hb (dk DX3_parseName 20 rfl) (by decide) ?_
    refine lv_iand hx hb (dk DX3_parseName 21 rfl) ?_
    refine lv_if_ne (tgt := 49) hx hb (dk DX3_parseName 22 rfl) (by decide) (fun hc => ?_) (fun hc => ?_)
    · have h := h.1 hc
      refine lv_aload_n hx hb (dk DX3_parseName 27 rfl) rfl (lv_at hl 1 rfl) ?_
      refine lv_bipush (v := 61) hx hb (dk DX3_parseName 28 rfl) (by decide) ?_
      refine lv_iload_n hx hb (dk DX3_parseName 29 rfl) rfl (lv_at hl 0 rfl) ?_
      refine cXi (As := [.int 61, .int v1]) (rest := []) X (m_X3_emit_43 (l := l) (dC := dC) (dI := dI) (q := q) (cI := cI) (cT := cT) (en := en) (sz := _) 61 v1 S h) (cwV 2 X.2.2.2.2.1 (gxV 330 331 332 231 322 rfl rfl rfl rfl rfl) rfl rfl rfl q_X3_emit_43 ⟨Nat.le_of_ble_eq_true rfl, Nat.le_of_ble_eq_true rfl⟩) (rX_43 X hP) hP hD hS rfl hl.1 rfl (Nat.le_of_ble_eq_true rfl) (dk DX3_parseName 30 rfl) (fun r4 S3 H locs h hP hD hS => ?_)
      refine lv_pop hx hb (dk DX3_parseName 31 rfl) rfl ?_
      refine lv_aload_n hx hb (dk DX3_parseName 32 rfl) rfl (lv_at hl 1 rfl) ?_
      refine cXv (As := []) (rest := []) X (m_X3_advance_43 (l := l) (dC := dC) (dI := dI) (q := q) (cI := cI) (cT := cT) (en := en) (sz := _) S3 h) (cwV 0 X.2.2.2.2.1 (gxV 318 319 320 231 312 rfl rfl rfl rfl rfl) rfl rfl rfl q_X3_advance_43 ⟨Nat.le_of_ble_eq_true rfl, Nat.le_of_ble_eq_true rfl⟩) (rX_43 X hP) hP hD hS rfl hl.1 rfl (Nat.le_of_ble_eq_true rfl) (dk DX3_parseName 33 rfl) (fun S5 H locs h hP hD hS => ?_)
      exact W.vret hx hb hr (fun t ht hW => ⟨⟨_, rfl, h, by rw [ht]; exact hP, va_K.moved hW.alike X.2.2.2.2.2.2.1, hD⟩, hS.F ht⟩) hS.2.2 (dk DX3_parseName 34 rfl)
    · have h := h.2 hc
      refine lv_aload_n hx hb (dk DX3_parseName 23 rfl) rfl (lv_at hl 1 rfl) ?_
      refine lv_iconst (v := 5) hx hb (dk DX3_parseName 24 rfl) (by decide) ?_
      refine cXv (As := [.int 5]) (rest := []) X (m_X3_fail_43 (l := l) (dC := dC) (dI := dI) (q := q) (cI := cI) (cT := cT) (en := en) (sz := _) 5 S h) (cwV 1 X.2.2.2.2.1 (gxV 315 316 317 231 313 rfl rfl rfl rfl rfl) rfl rfl rfl q_X3_fail_43 ⟨Nat.le_of_ble_eq_true rfl, Nat.le_of_ble_eq_true rfl⟩) (rX_43 X hP) hP hD hS rfl hl.1 rfl (Nat.le_of_ble_eq_true rfl) (dk DX3_parseName 25 rfl) (fun S6 H locs h hP hD hS => ?_)
      refine lv_goto (tgt := 61) hx hb (dk DX3_parseName 26 rfl) (by decide) ?_
      exact W.vret hx hb hr (fun t ht hW => ⟨⟨_, rfl, h, by rw [ht]; exact hP, va_K.moved hW.alike X.2.2.2.2.2.2.1, hD⟩, hS.F ht⟩) hS.2.2 (dk DX3_parseName 34 rfl)
  · have h := h.2 hc
    refine lv_aload_n hx hb (dk DX3_parseName 10 rfl) rfl (lv_at hl 1 rfl) ?_
    refine lv_iconst (v := 1) hx hb (dk DX3_parseName 11 rfl) (by decide) ?_
    refine cXv (As := [.int 1]) (rest := []) X (m_X3_fail_43 (l := l) (dC := dC) (dI := dI) (q := q) (cI := cI) (cT := cT) (en := en) (sz := _) 1 S h) (cwV 1 X.2.2.2.2.1 (gxV 315 316 317 231 313 rfl rfl rfl rfl rfl) rfl rfl rfl q_X3_fail_43 ⟨Nat.le_of_ble_eq_true rfl, Nat.le_of_ble_eq_true rfl⟩) (rX_43 X hP) hP hD hS rfl hl.1 rfl (Nat.le_of_ble_eq_true rfl) (dk DX3_parseName 12 rfl) (fun S7 H locs h hP hD hS => ?_)
    refine lv_goto (tgt := 61) hx hb (dk DX3_parseName 13 rfl) (by decide) ?_
    exact W.vret hx hb hr (fun t ht hW => ⟨⟨_, rfl, h, by rw [ht]; exact hP, va_K.moved hW.alike X.2.2.2.2.2.2.1, hD⟩, hS.F ht⟩) hS.2.2 (dk DX3_parseName 34 rfl)

def ww_X3_number_43 : List Cond := .code yX3_number cX3_number 4 (some .int) :: (WdX ++ WsX)
theorem q_X3_number_43 : yX3_number.cls = RX3 ∧ yX3_number.cls ≠ "java/lang/invoke/MethodHandle" ∧ yX3_number.cls ≠ "java/lang/invoke/VarHandle" ∧ (parseMethodDescriptor yX3_number.desc).map (fun d => d.parameters.length) = some 2 := by decide +kernel
def VC_X3_number_43 (Post : Int32 → XS → Prop) (a0 : Int32) (a1 : Int32) (S : XS) : Prop := (((S.1 1381) = 15 → VC_X11_within (fun r1 => ((¬ r1 = 0 → ∀ v2 : Int32, v2 = (S.1 1383) → VC_X3_advance_43 (fun S3 => Post v2 S3) S) ∧ (r1 = 0 → VC_X3_fail_43 (fun S4 => Post 0 S4) 2 S))) (S.1 1383) a0 a1) ∧ (¬ (S.1 1381) = 15 → VC_X3_fail_43 (fun S5 => Post 0 S5) 1 S))
set_option maxHeartbeats 4000000 in
set_option maxRecDepth 100000 in
theorem m_X3_number_43 {l : Launch} {dC : Nat → ClassId} {dI : Nat → Nat → Nat} {q : Nat → Nat} {cI cT : ClassId} {en : Nat → Nat} {sz : Nat} {Post : Int32 → XS → Prop} (a0 : Int32) (a1 : Int32) (S : XS) (h : VC_X3_number_43 Post a0 a1 S) : Met l yX3_number ww_X3_number_43 ({ frames := 7, cells := 0, slots := 0, locals := 152 } : Room) (va_Pc [.ref (q 43), .int a0, .int a1] (preX dC dI q cI cT en S sz)) (va_Qi Post (atX dC dI q cI cT (va_A (wX q cI cT S) sz)) (va_A (wX q cI cT S) sz)) 0 0 (va_A (wX q cI cT S) sz) := by
  refine oX (cc := cX3_number) (maxL := 4) (ret := (some .int)) (Qc := fun A => va_Qi Post (atX dC dI q cI cT A) A) (own := RX3) (by decide) rfl (fun w h => List.mem_cons_of_mem _ (List.mem_append_right _ h)) rfl (Nat.le_of_ble_eq_true rfl) (fun p e s m below meth c A ls X hr hlocks hP hD hS hl => ?_)
  have hx := X.1
  have hb := X.2.1
  have hl : lv_has ls 4 [(0, .ref (q 43)), (1, .int a0), (2, .int a1)] := hl
  have lk60 := X.2.2.2.2.1 (.fieldLink RX3 60 "BreathOnLoan$Parser" "token" "I") (inX 228 rfl)
  have lk138 := X.2.2.2.2.1 (.fieldLink RX3 138 "BreathOnLoan$Parser" "value" "I") (inX 241 rfl)
  dsimp only [VC_X3_number_43] at h
  refine lv_aload_n hx hb (dk DX3_number 0 rfl) rfl (lv_at hl 0 rfl) ?_
  refine gX_43 X hP 5 (by decide) rfl lk60 (dk DX3_number 1 rfl) ?_
  refine lv_bipush (v := 15) hx hb (dk DX3_number 2 rfl) (by decide) ?_
  refine lv_icmp_eq (tgt := 16) hx hb (dk DX3_number 3 rfl) (by decide) (fun hc => ?_) (fun hc => ?_)
  · have h := h.1 hc
    refine lv_aload_n hx hb (dk DX3_number 9 rfl) rfl (lv_at hl 0 rfl) ?_
    refine gX_43 X hP 7 (by decide) rfl lk138 (dk DX3_number 10 rfl) ?_
    refine lv_iload_n hx hb (dk DX3_number 11 rfl) rfl (lv_at hl 1 rfl) ?_
    refine lv_iload_n hx hb (dk DX3_number 12 rfl) rfl (lv_at hl 2 rfl) ?_
    refine cNi (As := [.int (S.1 1383), .int a0, .int a1]) (rest := []) ⟨X.1, X.2.1, X.2.2.1, X.2.2.2.1, X.2.2.2.2.1⟩ (m_X11_within (l := l) (S.1 1383) a0 a1 h) ⟨va_cnB (host := "BreathOnLoan") 3 X.2.2.2.2.1 (gxB (List.mem_of_getElem? (i := 324) rfl)) rfl rfl rfl (X.2.2.2.2.2.2.2.2.1.1 _ (List.mem_of_getElem? (i := 0) rfl)) (X.2.2.2.2.1 (.initialized RX11) (inX 16 rfl)) q_X11_within ⟨Nat.le_of_ble_eq_true rfl, Nat.le_of_ble_eq_true rfl⟩, X.2.2.2.2.1 (.static yX11_within) (inX 327 rfl), trivial⟩ rfl hl.1 rfl (Nat.le_of_ble_eq_true rfl) (dk DX3_number 13 rfl) (fun r1 h => ?_)
    refine lv_if_ne (tgt := 35) hx hb (dk DX3_number 14 rfl) (by decide) (fun hc => ?_) (fun hc => ?_)
    · have h := h.1 hc
      refine lv_aload_n hx hb (dk DX3_number 20 rfl) rfl (lv_at hl 0 rfl) ?_
      refine gX_43 X hP 7 (by decide) rfl lk138 (dk DX3_number 21 rfl) ?_
      refine lv_topi (fun v2 ev2 => ?_)
      have h := h v2 ev2
      refine lv_istore_n (lv' := [(3, .int v2), (0, .ref (q 43)), (1, .int a0), (2, .int a1)]) hx hb (dk DX3_number 22 rfl) rfl hl (by decide) rfl (fun ls hl => ?_)
      refine lv_aload_n hx hb (dk DX3_number 23 rfl) rfl (lv_at hl 1 rfl) ?_
      refine cXv (As := []) (rest := []) X (m_X3_advance_43 (l := l) (dC := dC) (dI := dI) (q := q) (cI := cI) (cT := cT) (en := en) (sz := _) S h) (cwV 0 X.2.2.2.2.1 (gxV 318 319 320 231 312 rfl rfl rfl rfl rfl) rfl rfl rfl q_X3_advance_43 ⟨Nat.le_of_ble_eq_true rfl, Nat.le_of_ble_eq_true rfl⟩) (rX_43 X hP) hP hD hS rfl hl.1 rfl (Nat.le_of_ble_eq_true rfl) (dk DX3_number 24 rfl) (fun S3 H locs h hP hD hS => ?_)
      refine lv_iload_n hx hb (dk DX3_number 25 rfl) rfl (lv_at hl 0 rfl) ?_
      exact W.iret (v := v2) hx hb hr (fun t ht hW => ⟨⟨_, _, rfl, h, by rw [ht]; exact hP, va_K.moved hW.alike X.2.2.2.2.2.2.1, hD⟩, hS.F ht⟩) hS.2.2 (dk DX3_number 26 rfl)
    · have h := h.2 hc
      refine lv_aload_n hx hb (dk DX3_number 15 rfl) rfl (lv_at hl 0 rfl) ?_
      refine lv_iconst (v := 2) hx hb (dk DX3_number 16 rfl) (by decide) ?_
      refine cXv (As := [.int 2]) (rest := []) X (m_X3_fail_43 (l := l) (dC := dC) (dI := dI) (q := q) (cI := cI) (cT := cT) (en := en) (sz := _) 2 S h) (cwV 1 X.2.2.2.2.1 (gxV 315 316 317 231 313 rfl rfl rfl rfl rfl) rfl rfl rfl q_X3_fail_43 ⟨Nat.le_of_ble_eq_true rfl, Nat.le_of_ble_eq_true rfl⟩) (rX_43 X hP) hP hD hS rfl hl.1 rfl (Nat.le_of_ble_eq_true rfl) (dk DX3_number 17 rfl) (fun S4 H locs h hP hD hS => ?_)
      refine lv_iconst (v := 0) hx hb (dk DX3_number 18 rfl) (by decide) ?_
      exact W.iret (v := 0) hx hb hr (fun t ht hW => ⟨⟨_, _, rfl, h, by rw [ht]; exact hP, va_K.moved hW.alike X.2.2.2.2.2.2.1, hD⟩, hS.F ht⟩) hS.2.2 (dk DX3_number 19 rfl)
  · have h := h.2 hc
    refine lv_aload_n hx hb (dk DX3_number 4 rfl) rfl (lv_at hl 0 rfl) ?_
    refine lv_iconst (v := 1) hx hb (dk DX3_number 5 rfl) (by decide) ?_
    refine cXv (As := [.int 1]) (rest := []) X (m_X3_fail_43 (l := l) (dC := dC) (dI := dI) (q := q) (cI := cI) (cT := cT) (en := en) (sz := _) 1 S h) (cwV 1 X.2.2.2.2.1 (gxV 315 316 317 231 313 rfl rfl rfl rfl rfl) rfl rfl rfl q_X3_fail_43 ⟨Nat.le_of_ble_eq_true rfl, Nat.le_of_ble_eq_true rfl⟩) (rX_43 X hP) hP hD hS rfl hl.1 rfl (Nat.le_of_ble_eq_true rfl) (dk DX3_number 6 rfl) (fun S5 H locs h hP hD hS => ?_)
    refine lv_iconst (v := 0) hx hb (dk DX3_number 7 rfl) (by decide) ?_
    exact W.iret (v := 0) hx hb hr (fun t ht hW => ⟨⟨_, _, rfl, h, by rw [ht]; exact hP, va_K.moved hW.alike X.2.2.2.2.2.2.1, hD⟩, hS.F ht⟩) hS.2.2 (dk DX3_number 8 rfl)

def ww_X3_expect_43 : List Cond := .code yX3_expect cX3_expect 2 none :: (WdX ++ WsX)
theorem q_X3_expect_43 : yX3_expect.cls = RX3 ∧ yX3_expect.cls ≠ "java/lang/invoke/MethodHandle" ∧ yX3_expect.cls ≠ "java/lang/invoke/VarHandle" ∧ (parseMethodDescriptor yX3_expect.desc).map (fun d => d.parameters.length) = some 1 := by decide +kernel
def VC_X3_expect_43 (Post : XS → Prop) (a0 : Int32) (S : XS) : Prop := ((¬ (S.1 1381) = a0 → VC_X3_fail_43 (fun S1 => Post S1) 1 S) ∧ ((S.1 1381) = a0 → VC_X3_advance_43 (fun S2 => Post S2) S))
set_option maxHeartbeats 4000000 in
set_option maxRecDepth 100000 in
theorem m_X3_expect_43 {l : Launch} {dC : Nat → ClassId} {dI : Nat → Nat → Nat} {q : Nat → Nat} {cI cT : ClassId} {en : Nat → Nat} {sz : Nat} {Post : XS → Prop} (a0 : Int32) (S : XS) (h : VC_X3_expect_43 Post a0 S) : Met l yX3_expect ww_X3_expect_43 ({ frames := 7, cells := 0, slots := 0, locals := 152 } : Room) (va_Pc [.ref (q 43), .int a0] (preX dC dI q cI cT en S sz)) (va_Qv Post (atX dC dI q cI cT (va_A (wX q cI cT S) sz)) (va_A (wX q cI cT S) sz)) 0 0 (va_A (wX q cI cT S) sz) := by
  refine oX (cc := cX3_expect) (maxL := 2) (ret := none) (Qc := fun A => va_Qv Post (atX dC dI q cI cT A) A) (own := RX3) (by decide) rfl (fun w h => List.mem_cons_of_mem _ (List.mem_append_right _ h)) rfl (Nat.le_of_ble_eq_true rfl) (fun p e s m below meth c A ls X hr hlocks hP hD hS hl => ?_)
  have hx := X.1
  have hb := X.2.1
  have hl : lv_has ls 2 [(0, .ref (q 43)), (1, .int a0)] := hl
  have lk60 := X.2.2.2.2.1 (.fieldLink RX3 60 "BreathOnLoan$Parser" "token" "I") (inX 228 rfl)
  dsimp only [VC_X3_expect_43] at h
  refine lv_aload_n hx hb (dk DX3_expect 0 rfl) rfl (lv_at hl 0 rfl) ?_
  refine gX_43 X hP 5 (by decide) rfl lk60 (dk DX3_expect 1 rfl) ?_
  refine lv_iload_n hx hb (dk DX3_expect 2 rfl) rfl (lv_at hl 1 rfl) ?_
  refine lv_icmp_ne (tgt := 15) hx hb (dk DX3_expect 3 rfl) (by decide) (fun hc => ?_) (fun hc => ?_)
  · have h := h.1 hc
    refine lv_aload_n hx hb (dk DX3_expect 7 rfl) rfl (lv_at hl 0 rfl) ?_
    refine lv_iconst (v := 1) hx hb (dk DX3_expect 8 rfl) (by decide) ?_
    refine cXv (As := [.int 1]) (rest := []) X (m_X3_fail_43 (l := l) (dC := dC) (dI := dI) (q := q) (cI := cI) (cT := cT) (en := en) (sz := _) 1 S h) (cwV 1 X.2.2.2.2.1 (gxV 315 316 317 231 313 rfl rfl rfl rfl rfl) rfl rfl rfl q_X3_fail_43 ⟨Nat.le_of_ble_eq_true rfl, Nat.le_of_ble_eq_true rfl⟩) (rX_43 X hP) hP hD hS rfl hl.1 rfl (Nat.le_of_ble_eq_true rfl) (dk DX3_expect 9 rfl) (fun S1 H locs h hP hD hS => ?_)
    exact W.vret hx hb hr (fun t ht hW => ⟨⟨_, rfl, h, by rw [ht]; exact hP, va_K.moved hW.alike X.2.2.2.2.2.2.1, hD⟩, hS.F ht⟩) hS.2.2 (dk DX3_expect 10 rfl)
  · have h := h.2 hc
    refine lv_aload_n hx hb (dk DX3_expect 4 rfl) rfl (lv_at hl 0 rfl) ?_
    refine cXv (As := []) (rest := []) X (m_X3_advance_43 (l := l) (dC := dC) (dI := dI) (q := q) (cI := cI) (cT := cT) (en := en) (sz := _) S h) (cwV 0 X.2.2.2.2.1 (gxV 318 319 320 231 312 rfl rfl rfl rfl rfl) rfl rfl rfl q_X3_advance_43 ⟨Nat.le_of_ble_eq_true rfl, Nat.le_of_ble_eq_true rfl⟩) (rX_43 X hP) hP hD hS rfl hl.1 rfl (Nat.le_of_ble_eq_true rfl) (dk DX3_expect 5 rfl) (fun S2 H locs h hP hD hS => ?_)
    refine lv_goto (tgt := 20) hx hb (dk DX3_expect 6 rfl) (by decide) ?_
    exact W.vret hx hb hr (fun t ht hW => ⟨⟨_, rfl, h, by rw [ht]; exact hP, va_K.moved hW.alike X.2.2.2.2.2.2.1, hD⟩, hS.F ht⟩) hS.2.2 (dk DX3_expect 10 rfl)

def ww_X3_enter_43 : List Cond := .code yX3_enter cX3_enter 1 none :: (WdX ++ WsX)
theorem q_X3_enter_43 : yX3_enter.cls = RX3 ∧ yX3_enter.cls ≠ "java/lang/invoke/MethodHandle" ∧ yX3_enter.cls ≠ "java/lang/invoke/VarHandle" ∧ (parseMethodDescriptor yX3_enter.desc).map (fun d => d.parameters.length) = some 0 := by decide +kernel
def VC_X3_enter_43 (Post : XS → Prop) (S : XS) : Prop := ∀ v1 : Int32, v1 = (S.1 1384) + 1 → ∀ S2 : XS, S2 = xI S 1384 v1 → (((S2.1 1384) ≤ 8 → VC_X3_advance_43 (fun S3 => Post S3) S2) ∧ (¬ (S2.1 1384) ≤ 8 → VC_X3_fail_43 (fun S4 => Post S4) 3 S2))
set_option maxHeartbeats 4000000 in
set_option maxRecDepth 100000 in
theorem m_X3_enter_43 {l : Launch} {dC : Nat → ClassId} {dI : Nat → Nat → Nat} {q : Nat → Nat} {cI cT : ClassId} {en : Nat → Nat} {sz : Nat} {Post : XS → Prop} (S : XS) (h : VC_X3_enter_43 Post S) : Met l yX3_enter ww_X3_enter_43 ({ frames := 7, cells := 0, slots := 0, locals := 152 } : Room) (va_Pc [.ref (q 43)] (preX dC dI q cI cT en S sz)) (va_Qv Post (atX dC dI q cI cT (va_A (wX q cI cT S) sz)) (va_A (wX q cI cT S) sz)) 0 0 (va_A (wX q cI cT S) sz) := by
  refine oX (cc := cX3_enter) (maxL := 1) (ret := none) (Qc := fun A => va_Qv Post (atX dC dI q cI cT A) A) (own := RX3) (by decide) rfl (fun w h => List.mem_cons_of_mem _ (List.mem_append_right _ h)) rfl (Nat.le_of_ble_eq_true rfl) (fun p e s m below meth c A ls X hr hlocks hP hD hS hl => ?_)
  have hx := X.1
  have hb := X.2.1
  have hl : lv_has ls 1 [(0, .ref (q 43))] := hl
  have lk42 := X.2.2.2.2.1 (.fieldLink RX3 42 "BreathOnLoan$Parser" "open" "I") (inX 314 rfl)
  dsimp only [VC_X3_enter_43] at h
  refine lv_aload_n hx hb (dk DX3_enter 0 rfl) rfl (lv_at hl 0 rfl) ?_
  refine lv_dup hx hb (dk DX3_enter 1 rfl) rfl ?_
  refine gX_43 X hP 8 (by decide) rfl lk42 (dk DX3_enter 2 rfl) ?_
  refine lv_iconst (v := 1) hx hb (dk DX3_enter 3 rfl) (by decide) ?_
  refine lv_iadd hx hb (dk DX3_enter 4 rfl) ?_
  refine lv_topi (fun v1 ev1 => ?_)
  have h := h v1 ev1
  refine pX_43_8 X hP hD hS lk42 (dk DX3_enter 5 rfl) (fun S2 eS2 H locs hP hD hS => ?_)
  have h := h S2 eS2
  refine lv_aload_n hx hb (dk DX3_enter 6 rfl) rfl (lv_at hl 0 rfl) ?_
  refine gX_43 X hP 8 (by decide) rfl lk42 (dk DX3_enter 7 rfl) ?_
  refine lv_bipush (v := 8) hx hb (dk DX3_enter 8 rfl) (by decide) ?_
  refine lv_icmp_le (tgt := 27) hx hb (dk DX3_enter 9 rfl) (by decide) (fun hc => ?_) (fun hc => ?_)
  · have h := h.1 hc
    refine lv_aload_n hx hb (dk DX3_enter 14 rfl) rfl (lv_at hl 0 rfl) ?_
    refine cXv (As := []) (rest := []) X (m_X3_advance_43 (l := l) (dC := dC) (dI := dI) (q := q) (cI := cI) (cT := cT) (en := en) (sz := _) S2 h) (cwV 0 X.2.2.2.2.1 (gxV 318 319 320 231 312 rfl rfl rfl rfl rfl) rfl rfl rfl q_X3_advance_43 ⟨Nat.le_of_ble_eq_true rfl, Nat.le_of_ble_eq_true rfl⟩) (rX_43 X hP) hP hD hS rfl hl.1 rfl (Nat.le_of_ble_eq_true rfl) (dk DX3_enter 15 rfl) (fun S3 H locs h hP hD hS => ?_)
    exact W.vret hx hb hr (fun t ht hW => ⟨⟨_, rfl, h, by rw [ht]; exact hP, va_K.moved hW.alike X.2.2.2.2.2.2.1, hD⟩, hS.F ht⟩) hS.2.2 (dk DX3_enter 16 rfl)
  · have h := h.2 hc
    refine lv_aload_n hx hb (dk DX3_enter 10 rfl) rfl (lv_at hl 0 rfl) ?_
    refine lv_iconst (v := 3) hx hb (dk DX3_enter 11 rfl) (by decide) ?_
    refine cXv (As := [.int 3]) (rest := []) X (m_X3_fail_43 (l := l) (dC := dC) (dI := dI) (q := q) (cI := cI) (cT := cT) (en := en) (sz := _) 3 S2 h) (cwV 1 X.2.2.2.2.1 (gxV 315 316 317 231 313 rfl rfl rfl rfl rfl) rfl rfl rfl q_X3_fail_43 ⟨Nat.le_of_ble_eq_true rfl, Nat.le_of_ble_eq_true rfl⟩) (rX_43 X hP) hP hD hS rfl hl.1 rfl (Nat.le_of_ble_eq_true rfl) (dk DX3_enter 12 rfl) (fun S4 H locs h hP hD hS => ?_)
    refine lv_goto (tgt := 31) hx hb (dk DX3_enter 13 rfl) (by decide) ?_
    exact W.vret hx hb hr (fun t ht hW => ⟨⟨_, rfl, h, by rw [ht]; exact hP, va_K.moved hW.alike X.2.2.2.2.2.2.1, hD⟩, hS.F ht⟩) hS.2.2 (dk DX3_enter 16 rfl)

