-- X3_readSign_43 J0_coder_7d493_101 J0_length_8abf5_101 J0_isLatin1_aae02_101 J3_checkIndex_8e157_n J3_checkIndex_8e157_t J0_checkIndex_df160 J1_charAt_3b067_103 J0_charAt_5068e_101 X3_isWord_43
def ww_X3_readSign_43 : List Cond := .code yX3_readSign cX3_readSign 4 none :: (WdX ++ WsX)
theorem q_X3_readSign_43 : yX3_readSign.cls = RX3 ∧ yX3_readSign.cls ≠ "java/lang/invoke/MethodHandle" ∧ yX3_readSign.cls ≠ "java/lang/invoke/VarHandle" ∧ (parseMethodDescriptor yX3_readSign.desc).map (fun d => d.parameters.length) = some 1 := by decide +kernel
abbrev Hd_X3_readSign_43 : Type := (Int32 × Int32) ⊕ (Int32 × Int32 × Int32)
def B_X3_readSign_43 (Post : XS → Prop) (K : Hd_X3_readSign_43 → XS → Prop) : Hd_X3_readSign_43 → XS → Prop
  | (.inl (x1, x2)), S => (((S.1 1313) ≤ (S.1 1380) → K (.inr (x1, x2, 0)) S) ∧ (¬ (S.1 1313) ≤ (S.1 1380) → vp_in (S.1 1380) 300 ∧ ((¬ ((S.2.1 42) (S.1 1380).toNatClampNeg) = 61 → K (.inr (x1, x2, 0)) S) ∧ (((S.2.1 42) (S.1 1380).toNatClampNeg) = 61 → K (.inr (x1, x2, 1)) S))))
  | (.inr (x1, x2, t0)), S => ((t0 = 0 → ((0 ≤ x2 → ∀ S5 : XS, S5 = xI S 1381 x2 → Post S5) ∧ (¬ 0 ≤ x2 → ∀ S6 : XS, S6 = xI S 1381 17 → Post S6))) ∧ (¬ t0 = 0 → ∀ v7 : Int32, v7 = (S.1 1380) + 1 → ∀ S8 : XS, S8 = xI S 1380 v7 → ((¬ x2 = 0 → ∀ S9 : XS, S9 = xI S8 1381 14 → Post S9) ∧ (x2 = 0 → ∀ S10 : XS, S10 = xI S8 1381 13 → Post S10))))
def VC_X3_readSign_43 (Post : XS → Prop) (a0 : Int32) (S : XS) : Prop := ∀ K : Hd_X3_readSign_43 → XS → Prop, (∀ h S, B_X3_readSign_43 Post K h S → K h S) → VC_J0_indexOf_0f7a4_102 (fun r2 S1 => ∀ v3 : Int32, v3 = (S1.1 1380) + 1 → ∀ S4 : XS, S4 = xI S1 1380 v3 → ((r2 = 0 → K (.inl (a0, r2)) S4) ∧ (¬ r2 = 0 → ((¬ r2 = 1 → K (.inr (a0, r2, 0)) S4) ∧ (r2 = 1 → K (.inl (a0, r2)) S4))))) ((a0.toUInt32 % 65536).toInt32) S
set_option maxHeartbeats 4000000 in
set_option maxRecDepth 100000 in
theorem h_X3_readSign_43_0 {p : Program} {l : Launch} {e : Env} {s : State} {m : MethodId} {below : List Frame} {meth : Method} {c : Code} {dC : Nat → ClassId} {dI : Nat → Nat → Nat} {q : Nat → Nat} {cI cT : ClassId} {en : Nat → Nat} {A : Nat → Prop} {args : Array Value} {Post : XS → Prop} {K : Hd_X3_readSign_43 → XS → Prop} (X : XX p s m args c cX3_readSign 4 ww_X3_readSign_43 RX3 dC dI cI cT en A) (hr : meth.sig.returnType = none) (hlocks : meth.locks = false) (hK0 : ∀ (x1 : Int32) (x2 : Int32) (S : XS), K (.inl (x1, x2)) S → ∀ (H : Heap) (locs : List Loc), va_P (dC, dI) vwCl (wX q cI cT S) H → va_D A (wX q cI cT S) → va_S A s.heap H locs → ∀ ls : Array Slot, lv_has ls 4 [(0, .ref (q 43)), (1, .int x1), (2, .int x2)] → W p l e (headSpec ww_X3_readSign_43 ({ frames := 4, cells := 0, slots := 0, locals := 106 } : Room)).room s m args below meth c H locs 0 0 (MQ below (va_Qv Post (atX dC dI q cI cT A) A) args s 0 0 A) (F0 m 27 ls [])) (hK1 : ∀ (x1 : Int32) (x2 : Int32) (t0 : Int32) (S : XS), K (.inr (x1, x2, t0)) S → ∀ (H : Heap) (locs : List Loc), va_P (dC, dI) vwCl (wX q cI cT S) H → va_D A (wX q cI cT S) → va_S A s.heap H locs → ∀ ls : Array Slot, lv_has ls 4 [(0, .ref (q 43)), (1, .int x1), (2, .int x2)] → W p l e (headSpec ww_X3_readSign_43 ({ frames := 4, cells := 0, slots := 0, locals := 106 } : Room)).room s m args below meth c H locs 0 0 (MQ below (va_Qv Post (atX dC dI q cI cT A) A) args s 0 0 A) (F0 m 63 ls [.int t0])) (x1 : Int32) (x2 : Int32) (S : XS) (h : B_X3_readSign_43 Post K (.inl (x1, x2)) S) : ∀ (H : Heap) (locs : List Loc), va_P (dC, dI) vwCl (wX q cI cT S) H → va_D A (wX q cI cT S) → va_S A s.heap H locs → ∀ ls : Array Slot, lv_has ls 4 [(0, .ref (q 43)), (1, .int x1), (2, .int x2)] → W p l e (headSpec ww_X3_readSign_43 ({ frames := 4, cells := 0, slots := 0, locals := 106 } : Room)).room s m args below meth c H locs 0 0 (MQ below (va_Qv Post (atX dC dI q cI cT A) A) args s 0 0 A) (F0 m 27 ls []) := by
  have hx := X.1
  have hb := X.2.1
  intro H locs hP hD hS ls hl
  have lk39 := X.2.2.2.2.1 (.fieldLink RX3 39 "BreathOnLoan$Parser" "next" "I") (inX 220 rfl)
  have lk28 := X.2.2.2.2.1 (.fieldLink RX3 28 "BreathOnLoan$Parser" "tape" "LBreathOnLoan$Tape;") (inX 174 rfl)
  have lk144 := X.2.2.2.2.1 (.fieldLink RX3 144 "BreathOnLoan$Tape" "length" "I") (inX 227 rfl)
  have lk149 := X.2.2.2.2.1 (.fieldLink RX3 149 "BreathOnLoan$Tape" "bytes" "[I") (inX 222 rfl)
  have lk60 := X.2.2.2.2.1 (.fieldLink RX3 60 "BreathOnLoan$Parser" "token" "I") (inX 228 rfl)
  dsimp only [B_X3_readSign_43] at h
  refine lv_aload_n hx hb (dk DX3_readSign 16 rfl) rfl (lv_at hl 0 rfl) ?_
  refine gX_43 X hP 4 (by decide) rfl lk39 (dk DX3_readSign 17 rfl) ?_
  refine lv_aload_n hx hb (dk DX3_readSign 18 rfl) rfl (lv_at hl 0 rfl) ?_
  refine gX_43 X hP 3 (by decide) rfl lk28 (dk DX3_readSign 19 rfl) ?_
  refine gX_41 X hP 1 (by decide) rfl lk144 (dk DX3_readSign 20 rfl) ?_
  refine lv_icmp_ge (tgt := 62) hx hb (dk DX3_readSign 21 rfl) (by decide) (fun hc => ?_) (fun hc => ?_)
  · have h := h.1 hc
    refine lv_iconst (v := 0) hx hb (dk DX3_readSign 32 rfl) (by decide) ?_
    exact hK1 x1 x2 0 S h _ _ hP hD hS ls (lv_sub hl [0, 1, 2] rfl)
  · have h := h.2 hc
    refine lv_aload_n hx hb (dk DX3_readSign 22 rfl) rfl (lv_at hl 0 rfl) ?_
    refine gX_43 X hP 3 (by decide) rfl lk28 (dk DX3_readSign 23 rfl) ?_
    refine gX_41 X hP 0 (by decide) rfl lk149 (dk DX3_readSign 24 rfl) ?_
    refine lv_aload_n hx hb (dk DX3_readSign 25 rfl) rfl (lv_at hl 0 rfl) ?_
    refine gX_43 X hP 4 (by decide) rfl lk39 (dk DX3_readSign 26 rfl) ?_
    obtain ⟨hin, h⟩ := h
    refine ldX_42 X hP hin (dk DX3_readSign 27 rfl) ?_
    refine lv_bipush (v := 61) hx hb (dk DX3_readSign 28 rfl) (by decide) ?_
    refine lv_icmp_ne (tgt := 62) hx hb (dk DX3_readSign 29 rfl) (by decide) (fun hc => ?_) (fun hc => ?_)
    · have h := h.1 hc
      refine lv_iconst (v := 0) hx hb (dk DX3_readSign 32 rfl) (by decide) ?_
      exact hK1 x1 x2 0 S h _ _ hP hD hS ls (lv_sub hl [0, 1, 2] rfl)
    · have h := h.2 hc
      refine lv_iconst (v := 1) hx hb (dk DX3_readSign 30 rfl) (by decide) ?_
      refine lv_goto (tgt := 63) hx hb (dk DX3_readSign 31 rfl) (by decide) ?_
      exact hK1 x1 x2 1 S h _ _ hP hD hS ls (lv_sub hl [0, 1, 2] rfl)
set_option maxHeartbeats 4000000 in
set_option maxRecDepth 100000 in
theorem h_X3_readSign_43_1 {p : Program} {l : Launch} {e : Env} {s : State} {m : MethodId} {below : List Frame} {meth : Method} {c : Code} {dC : Nat → ClassId} {dI : Nat → Nat → Nat} {q : Nat → Nat} {cI cT : ClassId} {en : Nat → Nat} {A : Nat → Prop} {args : Array Value} {Post : XS → Prop} {K : Hd_X3_readSign_43 → XS → Prop} (X : XX p s m args c cX3_readSign 4 ww_X3_readSign_43 RX3 dC dI cI cT en A) (hr : meth.sig.returnType = none) (hlocks : meth.locks = false) (hK0 : ∀ (x1 : Int32) (x2 : Int32) (S : XS), K (.inl (x1, x2)) S → ∀ (H : Heap) (locs : List Loc), va_P (dC, dI) vwCl (wX q cI cT S) H → va_D A (wX q cI cT S) → va_S A s.heap H locs → ∀ ls : Array Slot, lv_has ls 4 [(0, .ref (q 43)), (1, .int x1), (2, .int x2)] → W p l e (headSpec ww_X3_readSign_43 ({ frames := 4, cells := 0, slots := 0, locals := 106 } : Room)).room s m args below meth c H locs 0 0 (MQ below (va_Qv Post (atX dC dI q cI cT A) A) args s 0 0 A) (F0 m 27 ls [])) (hK1 : ∀ (x1 : Int32) (x2 : Int32) (t0 : Int32) (S : XS), K (.inr (x1, x2, t0)) S → ∀ (H : Heap) (locs : List Loc), va_P (dC, dI) vwCl (wX q cI cT S) H → va_D A (wX q cI cT S) → va_S A s.heap H locs → ∀ ls : Array Slot, lv_has ls 4 [(0, .ref (q 43)), (1, .int x1), (2, .int x2)] → W p l e (headSpec ww_X3_readSign_43 ({ frames := 4, cells := 0, slots := 0, locals := 106 } : Room)).room s m args below meth c H locs 0 0 (MQ below (va_Qv Post (atX dC dI q cI cT A) A) args s 0 0 A) (F0 m 63 ls [.int t0])) (x1 : Int32) (x2 : Int32) (t0 : Int32) (S : XS) (h : B_X3_readSign_43 Post K (.inr (x1, x2, t0)) S) : ∀ (H : Heap) (locs : List Loc), va_P (dC, dI) vwCl (wX q cI cT S) H → va_D A (wX q cI cT S) → va_S A s.heap H locs → ∀ ls : Array Slot, lv_has ls 4 [(0, .ref (q 43)), (1, .int x1), (2, .int x2)] → W p l e (headSpec ww_X3_readSign_43 ({ frames := 4, cells := 0, slots := 0, locals := 106 } : Room)).room s m args below meth c H locs 0 0 (MQ below (va_Qv Post (atX dC dI q cI cT A) A) args s 0 0 A) (F0 m 63 ls [.int t0]) := by
  have hx := X.1
  have hb := X.2.1
  intro H locs hP hD hS ls hl
  have lk39 := X.2.2.2.2.1 (.fieldLink RX3 39 "BreathOnLoan$Parser" "next" "I") (inX 220 rfl)
  have lk28 := X.2.2.2.2.1 (.fieldLink RX3 28 "BreathOnLoan$Parser" "tape" "LBreathOnLoan$Tape;") (inX 174 rfl)
  have lk144 := X.2.2.2.2.1 (.fieldLink RX3 144 "BreathOnLoan$Tape" "length" "I") (inX 227 rfl)
  have lk149 := X.2.2.2.2.1 (.fieldLink RX3 149 "BreathOnLoan$Tape" "bytes" "[I") (inX 222 rfl)
  have lk60 := X.2.2.2.2.1 (.fieldLink RX3 60 "BreathOnLoan$Parser" "token" "I") (inX 228 rfl)
  dsimp only [B_X3_readSign_43] at h
  refine lv_istore_n (lv' := [(3, .int t0), (0, .ref (q 43)), (1, .int x1), (2, .int x2)]) hx hb (dk DX3_readSign 33 rfl) rfl hl (by decide) rfl (fun ls hl => ?_)
  refine lv_iload_n hx hb (dk DX3_readSign 34 rfl) rfl (lv_at hl 0 rfl) ?_
  refine lv_if_eq (tgt := 96) hx hb (dk DX3_readSign 35 rfl) (by decide) (fun hc => ?_) (fun hc => ?_)
  · have h := h.1 hc
    refine lv_aload_n hx hb (dk DX3_readSign 50 rfl) rfl (lv_at hl 1 rfl) ?_
    refine lv_iload_n hx hb (dk DX3_readSign 51 rfl) rfl (lv_at hl 3 rfl) ?_
    refine lv_if_ge (tgt := 106) hx hb (dk DX3_readSign 52 rfl) (by decide) (fun hc => ?_) (fun hc => ?_)
    · have h := h.1 hc
      refine lv_iload_n hx hb (dk DX3_readSign 55 rfl) rfl (lv_at hl 3 rfl) ?_
      refine pX_43_5 X hP hD hS lk60 (dk DX3_readSign 56 rfl) (fun S5 eS5 H locs hP hD hS => ?_)
      have h := h S5 eS5
      exact W.vret hx hb hr (fun t ht hW => ⟨⟨_, rfl, h, by rw [ht]; exact hP, va_K.moved hW.alike X.2.2.2.2.2.2.1, hD⟩, hS.F ht⟩) hS.2.2 (dk DX3_readSign 57 rfl)
    · have h := h.2 hc
      refine lv_bipush (v := 17) hx hb (dk DX3_readSign 53 rfl) (by decide) ?_
      refine lv_goto (tgt := 107) hx hb (dk DX3_readSign 54 rfl) (by decide) ?_
      refine pX_43_5 X hP hD hS lk60 (dk DX3_readSign 56 rfl) (fun S6 eS6 H locs hP hD hS => ?_)
      have h := h S6 eS6
      exact W.vret hx hb hr (fun t ht hW => ⟨⟨_, rfl, h, by rw [ht]; exact hP, va_K.moved hW.alike X.2.2.2.2.2.2.1, hD⟩, hS.F ht⟩) hS.2.2 (dk DX3_readSign 57 rfl)
  · have h := h.2 hc
    refine lv_aload_n hx hb (dk DX3_readSign 36 rfl) rfl (lv_at hl 1 rfl) ?_
    refine lv_dup hx hb (dk DX3_readSign 37 rfl) rfl ?_
    refine gX_43 X hP 4 (by decide) rfl lk39 (dk DX3_readSign 38 rfl) ?_
    refine lv_iconst (v := 1) hx hb (dk DX3_readSign 39 rfl) (by decide) ?_
    refine lv_iadd hx hb (dk DX3_readSign 40 rfl) ?_
    refine lv_topi (fun v7 ev7 => ?_)
    have h := h v7 ev7
    refine pX_43_4 X hP hD hS lk39 (dk DX3_readSign 41 rfl) (fun S8 eS8 H locs hP hD hS => ?_)
    have h := h S8 eS8
    refine lv_aload_n hx hb (dk DX3_readSign 42 rfl) rfl (lv_at hl 1 rfl) ?_
    refine lv_iload_n hx hb (dk DX3_readSign 43 rfl) rfl (lv_at hl 3 rfl) ?_
    refine lv_if_ne (tgt := 88) hx hb (dk DX3_readSign 44 rfl) (by decide) (fun hc => ?_) (fun hc => ?_)
    · have h := h.1 hc
      refine lv_bipush (v := 14) hx hb (dk DX3_readSign 47 rfl) (by decide) ?_
      refine pX_43_5 X hP hD hS lk60 (dk DX3_readSign 48 rfl) (fun S9 eS9 H locs hP hD hS => ?_)
      have h := h S9 eS9
      refine lv_goto (tgt := 110) hx hb (dk DX3_readSign 49 rfl) (by decide) ?_
      exact W.vret hx hb hr (fun t ht hW => ⟨⟨_, rfl, h, by rw [ht]; exact hP, va_K.moved hW.alike X.2.2.2.2.2.2.1, hD⟩, hS.F ht⟩) hS.2.2 (dk DX3_readSign 57 rfl)
    · have h := h.2 hc
      refine lv_bipush (v := 13) hx hb (dk DX3_readSign 45 rfl) (by decide) ?_
      refine lv_goto (tgt := 90) hx hb (dk DX3_readSign 46 rfl) (by decide) ?_
      refine pX_43_5 X hP hD hS lk60 (dk DX3_readSign 48 rfl) (fun S10 eS10 H locs hP hD hS => ?_)
      have h := h S10 eS10
      refine lv_goto (tgt := 110) hx hb (dk DX3_readSign 49 rfl) (by decide) ?_
      exact W.vret hx hb hr (fun t ht hW => ⟨⟨_, rfl, h, by rw [ht]; exact hP, va_K.moved hW.alike X.2.2.2.2.2.2.1, hD⟩, hS.F ht⟩) hS.2.2 (dk DX3_readSign 57 rfl)
set_option maxHeartbeats 4000000 in
set_option maxRecDepth 100000 in
theorem m_X3_readSign_43 {l : Launch} {dC : Nat → ClassId} {dI : Nat → Nat → Nat} {q : Nat → Nat} {cI cT : ClassId} {en : Nat → Nat} {sz : Nat} {Post : XS → Prop} (a0 : Int32) (S : XS) (h : VC_X3_readSign_43 Post a0 S) : Met l yX3_readSign ww_X3_readSign_43 ({ frames := 4, cells := 0, slots := 0, locals := 106 } : Room) (va_Pc [.ref (q 43), .int a0] (preX dC dI q cI cT en S sz)) (va_Qv Post (atX dC dI q cI cT (va_A (wX q cI cT S) sz)) (va_A (wX q cI cT S) sz)) 0 0 (va_A (wX q cI cT S) sz) := by
  refine oX (cc := cX3_readSign) (maxL := 4) (ret := none) (Qc := fun A => va_Qv Post (atX dC dI q cI cT A) A) (own := RX3) (by decide) rfl (fun w h => List.mem_cons_of_mem _ (List.mem_append_right _ h)) rfl (Nat.le_of_ble_eq_true rfl) (fun p e s m below meth c A ls X hr hlocks hP hD hS hl => ?_)
  have hx := X.1
  have hb := X.2.1
  have hl : lv_has ls 4 [(0, .ref (q 43)), (1, .int a0)] := hl
  have lk39 := X.2.2.2.2.1 (.fieldLink RX3 39 "BreathOnLoan$Parser" "next" "I") (inX 220 rfl)
  have lk28 := X.2.2.2.2.1 (.fieldLink RX3 28 "BreathOnLoan$Parser" "tape" "LBreathOnLoan$Tape;") (inX 174 rfl)
  have lk144 := X.2.2.2.2.1 (.fieldLink RX3 144 "BreathOnLoan$Tape" "length" "I") (inX 227 rfl)
  have lk149 := X.2.2.2.2.1 (.fieldLink RX3 149 "BreathOnLoan$Tape" "bytes" "[I") (inX 222 rfl)
  have lk60 := X.2.2.2.2.1 (.fieldLink RX3 60 "BreathOnLoan$Parser" "token" "I") (inX 228 rfl)
  generalize hargs : ([.ref (q 43), .int a0] : List Value).toArray = args at X ⊢
  have h := h (fun hd S => match hd with | (.inl (x1, x2)) => ∀ (H : Heap) (locs : List Loc), va_P (dC, dI) vwCl (wX q cI cT S) H → va_D A (wX q cI cT S) → va_S A s.heap H locs → ∀ ls : Array Slot, lv_has ls 4 [(0, .ref (q 43)), (1, .int x1), (2, .int x2)] → W p l e (headSpec ww_X3_readSign_43 ({ frames := 4, cells := 0, slots := 0, locals := 106 } : Room)).room s m args below meth c H locs 0 0 (MQ below (va_Qv Post (atX dC dI q cI cT A) A) args s 0 0 A) (F0 m 27 ls []) | (.inr (x1, x2, t0)) => ∀ (H : Heap) (locs : List Loc), va_P (dC, dI) vwCl (wX q cI cT S) H → va_D A (wX q cI cT S) → va_S A s.heap H locs → ∀ ls : Array Slot, lv_has ls 4 [(0, .ref (q 43)), (1, .int x1), (2, .int x2)] → W p l e (headSpec ww_X3_readSign_43 ({ frames := 4, cells := 0, slots := 0, locals := 106 } : Room)).room s m args below meth c H locs 0 0 (MQ below (va_Qv Post (atX dC dI q cI cT A) A) args s 0 0 A) (F0 m 63 ls [.int t0])) ?_
  · skip
    refine lsX_2 X (dk DX3_readSign 0 rfl) ?_
    refine lv_iload_n hx hb (dk DX3_readSign 1 rfl) rfl (lv_at hl 1 rfl) ?_
    refine lv_i2c hx hb (dk DX3_readSign 2 rfl) rfl ?_
    refine cXi (As := [.int ((a0.toUInt32 % 65536).toInt32)]) (rest := []) X (m_J0_indexOf_0f7a4_102 (l := l) (dC := dC) (dI := dI) (q := q) (cI := cI) (cT := cT) (en := en) (sz := _) ((a0.toUInt32 % 65536).toInt32) S h) (cwV 1 X.2.2.2.2.1 (gxV 298 299 300 185 297 rfl rfl rfl rfl rfl) rfl rfl rfl q_J0_indexOf_0f7a4_102 ⟨Nat.le_of_ble_eq_true rfl, Nat.le_of_ble_eq_true rfl⟩) (rE_2 X hS) hP hD hS rfl hl.1 rfl (Nat.le_of_ble_eq_true rfl) (dk DX3_readSign 3 rfl) (fun r2 S1 H locs h hP hD hS => ?_)
    refine lv_istore_n (lv' := [(2, .int r2), (0, .ref (q 43)), (1, .int a0)]) hx hb (dk DX3_readSign 4 rfl) rfl hl (by decide) rfl (fun ls hl => ?_)
    refine lv_aload_n hx hb (dk DX3_readSign 5 rfl) rfl (lv_at hl 1 rfl) ?_
    refine lv_dup hx hb (dk DX3_readSign 6 rfl) rfl ?_
    refine gX_43 X hP 4 (by decide) rfl lk39 (dk DX3_readSign 7 rfl) ?_
    refine lv_iconst (v := 1) hx hb (dk DX3_readSign 8 rfl) (by decide) ?_
    refine lv_iadd hx hb (dk DX3_readSign 9 rfl) ?_
    refine lv_topi (fun v3 ev3 => ?_)
    have h := h v3 ev3
    refine pX_43_4 X hP hD hS lk39 (dk DX3_readSign 10 rfl) (fun S4 eS4 H locs hP hD hS => ?_)
    have h := h S4 eS4
    refine lv_iload_n hx hb (dk DX3_readSign 11 rfl) rfl (lv_at hl 0 rfl) ?_
    refine lv_if_eq (tgt := 27) hx hb (dk DX3_readSign 12 rfl) (by decide) (fun hc => ?_) (fun hc => ?_)
    · have h := h.1 hc
      exact h _ _ hP hD hS ls (lv_sub hl [1, 2, 0] rfl)
    · have h := h.2 hc
      refine lv_iload_n hx hb (dk DX3_readSign 13 rfl) rfl (lv_at hl 0 rfl) ?_
      refine lv_iconst (v := 1) hx hb (dk DX3_readSign 14 rfl) (by decide) ?_
      refine lv_icmp_ne (tgt := 62) hx hb (dk DX3_readSign 15 rfl) (by decide) (fun hc => ?_) (fun hc => ?_)
      · have h := h.1 hc
        refine lv_iconst (v := 0) hx hb (dk DX3_readSign 32 rfl) (by decide) ?_
        exact h _ _ hP hD hS ls (lv_sub hl [1, 2, 0] rfl)
      · have h := h.2 hc
        exact h _ _ hP hD hS ls (lv_sub hl [1, 2, 0] rfl)
  · rintro (⟨x1, x2⟩ | ⟨x1, x2, t0⟩) S hB
    · exact h_X3_readSign_43_0 X hr hlocks (hK0 := fun _ _ _ h => h) (hK1 := fun _ _ _ _ h => h) x1 x2 S hB
    · exact h_X3_readSign_43_1 X hr hlocks (hK0 := fun _ _ _ h => h) (hK1 := fun _ _ _ _ h => h) x1 x2 t0 S hB

def ww_J0_coder_7d493_101 : List Cond := .code yJ0_coder_7d493 cJ0_coder_7d493 1 (some .byte) :: (WdX ++ WsX)
theorem q_J0_coder_7d493_101 : yJ0_coder_7d493.cls = RJ0 ∧ yJ0_coder_7d493.cls ≠ "java/lang/invoke/MethodHandle" ∧ yJ0_coder_7d493.cls ≠ "java/lang/invoke/VarHandle" ∧ (parseMethodDescriptor yJ0_coder_7d493.desc).map (fun d => d.parameters.length) = some 0 := by decide +kernel
def VC_J0_coder_7d493_101 (Post : Int32 → XS → Prop) (S : XS) : Prop := (((1 : Int32) = 0 → Post 1 S) ∧ (¬ (1 : Int32) = 0 → Post 0 S))
set_option maxHeartbeats 4000000 in
set_option maxRecDepth 100000 in
theorem m_J0_coder_7d493_101 {l : Launch} {dC : Nat → ClassId} {dI : Nat → Nat → Nat} {q : Nat → Nat} {cI cT : ClassId} {en : Nat → Nat} {sz : Nat} {Post : Int32 → XS → Prop} (S : XS) (h : VC_J0_coder_7d493_101 Post S) : Met l yJ0_coder_7d493 ww_J0_coder_7d493_101 ({ frames := 0, cells := 0, slots := 0, locals := 0 } : Room) (va_Pc [.ref (en 1)] (preX dC dI q cI cT en S sz)) (va_Qi Post (atX dC dI q cI cT (va_A (wX q cI cT S) sz)) (va_A (wX q cI cT S) sz)) 0 0 (va_A (wX q cI cT S) sz) := by
  refine oX (cc := cJ0_coder_7d493) (maxL := 1) (ret := (some .byte)) (Qc := fun A => va_Qi Post (atX dC dI q cI cT A) A) (own := RJ0) (by decide) rfl (fun w h => List.mem_cons_of_mem _ (List.mem_append_right _ h)) rfl (Nat.le_of_ble_eq_true rfl) (fun p e s m below meth c A ls X hr hlocks hP hD hS hl => ?_)
  have hx := X.1
  have hb := X.2.1
  have hl : lv_has ls 1 [(0, .ref (en 1))] := hl
  have lk38 := X.2.2.2.2.1 (.fieldLink RJ0 38 "java/lang/String" "COMPACT_STRINGS" "Z") (inX 178 rfl)
  have lk15 := X.2.2.2.2.1 (.fieldLink RJ0 15 "java/lang/String" "coder" "B") (inX 179 rfl)
  dsimp only [VC_J0_coder_7d493_101] at h
  refine gsE_c X hS lk38 (dk DJ0_coder_7d493 0 rfl) ?_
  refine lv_if_eq (tgt := 13) hx hb (dk DJ0_coder_7d493 1 rfl) (by decide) (fun hc => ?_) (fun hc => ?_)
  · have h := h.1 hc
    refine lv_iconst (v := 1) hx hb (dk DJ0_coder_7d493 5 rfl) (by decide) ?_
    exact W.zret (v := 1) hx hb hr (by decide) (fun t ht hW => ⟨⟨_, _, rfl, h, by rw [ht]; exact hP, va_K.moved hW.alike X.2.2.2.2.2.2.1, hD⟩, hS.F ht⟩) hS.2.2 (dk DJ0_coder_7d493 6 rfl)
  · have h := h.2 hc
    refine lv_aload_n hx hb (dk DJ0_coder_7d493 2 rfl) rfl (lv_at hl 0 rfl) ?_
    refine gE_1_coder X hS lk15 (dk DJ0_coder_7d493 3 rfl) ?_
    refine lv_goto (tgt := 14) hx hb (dk DJ0_coder_7d493 4 rfl) (by decide) ?_
    exact W.zret (v := 0) hx hb hr (by decide) (fun t ht hW => ⟨⟨_, _, rfl, h, by rw [ht]; exact hP, va_K.moved hW.alike X.2.2.2.2.2.2.1, hD⟩, hS.F ht⟩) hS.2.2 (dk DJ0_coder_7d493 6 rfl)

def ww_J0_length_8abf5_101 : List Cond := .code yJ0_length_8abf5 cJ0_length_8abf5 1 (some .int) :: (WdX ++ WsX)
theorem q_J0_length_8abf5_101 : yJ0_length_8abf5.cls = RJ0 ∧ yJ0_length_8abf5.cls ≠ "java/lang/invoke/MethodHandle" ∧ yJ0_length_8abf5.cls ≠ "java/lang/invoke/VarHandle" ∧ (parseMethodDescriptor yJ0_length_8abf5.desc).map (fun d => d.parameters.length) = some 0 := by decide +kernel
def VC_J0_length_8abf5_101 (Post : Int32 → XS → Prop) (S : XS) : Prop := VC_J0_coder_7d493_101 (fun r2 S1 => Post ((134 : Int32) >>> (r2 &&& 31)) S1) S
set_option maxHeartbeats 4000000 in
set_option maxRecDepth 100000 in
theorem m_J0_length_8abf5_101 {l : Launch} {dC : Nat → ClassId} {dI : Nat → Nat → Nat} {q : Nat → Nat} {cI cT : ClassId} {en : Nat → Nat} {sz : Nat} {Post : Int32 → XS → Prop} (S : XS) (h : VC_J0_length_8abf5_101 Post S) : Met l yJ0_length_8abf5 ww_J0_length_8abf5_101 ({ frames := 1, cells := 0, slots := 0, locals := 20 } : Room) (va_Pc [.ref (en 1)] (preX dC dI q cI cT en S sz)) (va_Qi Post (atX dC dI q cI cT (va_A (wX q cI cT S) sz)) (va_A (wX q cI cT S) sz)) 0 0 (va_A (wX q cI cT S) sz) := by
  refine oX (cc := cJ0_length_8abf5) (maxL := 1) (ret := (some .int)) (Qc := fun A => va_Qi Post (atX dC dI q cI cT A) A) (own := RJ0) (by decide) rfl (fun w h => List.mem_cons_of_mem _ (List.mem_append_right _ h)) rfl (Nat.le_of_ble_eq_true rfl) (fun p e s m below meth c A ls X hr hlocks hP hD hS hl => ?_)
  have hx := X.1
  have hb := X.2.1
  have hl : lv_has ls 1 [(0, .ref (en 1))] := hl
  have lk9 := X.2.2.2.2.1 (.fieldLink RJ0 9 "java/lang/String" "value" "[B") (inX 181 rfl)
  dsimp only [VC_J0_length_8abf5_101] at h
  refine lv_aload_n hx hb (dk DJ0_length_8abf5 0 rfl) rfl (lv_at hl 0 rfl) ?_
  refine gE_1_value X hS lk9 (dk DJ0_length_8abf5 1 rfl) ?_
  refine alE_3 X hS (dk DJ0_length_8abf5 2 rfl) ?_
  refine lv_aload_n hx hb (dk DJ0_length_8abf5 3 rfl) rfl (lv_at hl 0 rfl) ?_
  refine cXi (As := []) (rest := [.int 134]) X (m_J0_coder_7d493_101 (l := l) (dC := dC) (dI := dI) (q := q) (cI := cI) (cT := cT) (en := en) (sz := _) S h) (cwV 0 X.2.2.2.2.1 (gxV 182 183 184 185 177 rfl rfl rfl rfl rfl) rfl rfl rfl q_J0_coder_7d493_101 ⟨Nat.le_of_ble_eq_true rfl, Nat.le_of_ble_eq_true rfl⟩) (rE_1 X hS) hP hD hS rfl hl.1 rfl (Nat.le_of_ble_eq_true rfl) (dk DJ0_length_8abf5 4 rfl) (fun r2 S1 H locs h hP hD hS => ?_)
  refine lv_ishr hx hb (dk DJ0_length_8abf5 5 rfl) ?_
  exact W.iret (v := (134 : Int32) >>> (r2 &&& 31)) hx hb hr (fun t ht hW => ⟨⟨_, _, rfl, h, by rw [ht]; exact hP, va_K.moved hW.alike X.2.2.2.2.2.2.1, hD⟩, hS.F ht⟩) hS.2.2 (dk DJ0_length_8abf5 6 rfl)

def ww_J0_isLatin1_aae02_101 : List Cond := .code yJ0_isLatin1_aae02 cJ0_isLatin1_aae02 1 (some .boolean) :: (WdX ++ WsX)
theorem q_J0_isLatin1_aae02_101 : yJ0_isLatin1_aae02.cls = RJ0 ∧ yJ0_isLatin1_aae02.cls ≠ "java/lang/invoke/MethodHandle" ∧ yJ0_isLatin1_aae02.cls ≠ "java/lang/invoke/VarHandle" ∧ (parseMethodDescriptor yJ0_isLatin1_aae02.desc).map (fun d => d.parameters.length) = some 0 := by decide +kernel
def VC_J0_isLatin1_aae02_101 (Post : Int32 → XS → Prop) (S : XS) : Prop := (((1 : Int32) = 0 → Post 0 S) ∧ (¬ (1 : Int32) = 0 → ((¬ (0 : Int32) = 0 → Post 0 S) ∧ ((0 : Int32) = 0 → Post 1 S))))
set_option maxHeartbeats 4000000 in
set_option maxRecDepth 100000 in
theorem m_J0_isLatin1_aae02_101 {l : Launch} {dC : Nat → ClassId} {dI : Nat → Nat → Nat} {q : Nat → Nat} {cI cT : ClassId} {en : Nat → Nat} {sz : Nat} {Post : Int32 → XS → Prop} (S : XS) (h : VC_J0_isLatin1_aae02_101 Post S) : Met l yJ0_isLatin1_aae02 ww_J0_isLatin1_aae02_101 ({ frames := 0, cells := 0, slots := 0, locals := 0 } : Room) (va_Pc [.ref (en 1)] (preX dC dI q cI cT en S sz)) (va_Qi Post (atX dC dI q cI cT (va_A (wX q cI cT S) sz)) (va_A (wX q cI cT S) sz)) 0 0 (va_A (wX q cI cT S) sz) := by
  refine oX (cc := cJ0_isLatin1_aae02) (maxL := 1) (ret := (some .boolean)) (Qc := fun A => va_Qi Post (atX dC dI q cI cT A) A) (own := RJ0) (by decide) rfl (fun w h => List.mem_cons_of_mem _ (List.mem_append_right _ h)) rfl (Nat.le_of_ble_eq_true rfl) (fun p e s m below meth c A ls X hr hlocks hP hD hS hl => ?_)
  have hx := X.1
  have hb := X.2.1
  have hl : lv_has ls 1 [(0, .ref (en 1))] := hl
  have lk38 := X.2.2.2.2.1 (.fieldLink RJ0 38 "java/lang/String" "COMPACT_STRINGS" "Z") (inX 178 rfl)
  have lk15 := X.2.2.2.2.1 (.fieldLink RJ0 15 "java/lang/String" "coder" "B") (inX 179 rfl)
  dsimp only [VC_J0_isLatin1_aae02_101] at h
  refine gsE_c X hS lk38 (dk DJ0_isLatin1_aae02 0 rfl) ?_
  refine lv_if_eq (tgt := 17) hx hb (dk DJ0_isLatin1_aae02 1 rfl) (by decide) (fun hc => ?_) (fun hc => ?_)
  · have h := h.1 hc
    refine lv_iconst (v := 0) hx hb (dk DJ0_isLatin1_aae02 7 rfl) (by decide) ?_
    exact W.zret (v := 0) hx hb hr (by decide) (fun t ht hW => ⟨⟨_, _, rfl, h, by rw [ht]; exact hP, va_K.moved hW.alike X.2.2.2.2.2.2.1, hD⟩, hS.F ht⟩) hS.2.2 (dk DJ0_isLatin1_aae02 8 rfl)
  · have h := h.2 hc
    refine lv_aload_n hx hb (dk DJ0_isLatin1_aae02 2 rfl) rfl (lv_at hl 0 rfl) ?_
    refine gE_1_coder X hS lk15 (dk DJ0_isLatin1_aae02 3 rfl) ?_
    refine lv_if_ne (tgt := 17) hx hb (dk DJ0_isLatin1_aae02 4 rfl) (by decide) (fun hc => ?_) (fun hc => ?_)
    · have h := h.1 hc
      refine lv_iconst (v := 0) hx hb (dk DJ0_isLatin1_aae02 7 rfl) (by decide) ?_
      exact W.zret (v := 0) hx hb hr (by decide) (fun t ht hW => ⟨⟨_, _, rfl, h, by rw [ht]; exact hP, va_K.moved hW.alike X.2.2.2.2.2.2.1, hD⟩, hS.F ht⟩) hS.2.2 (dk DJ0_isLatin1_aae02 8 rfl)
    · have h := h.2 hc
      refine lv_iconst (v := 1) hx hb (dk DJ0_isLatin1_aae02 5 rfl) (by decide) ?_
      refine lv_goto (tgt := 18) hx hb (dk DJ0_isLatin1_aae02 6 rfl) (by decide) ?_
      exact W.zret (v := 1) hx hb hr (by decide) (fun t ht hW => ⟨⟨_, _, rfl, h, by rw [ht]; exact hP, va_K.moved hW.alike X.2.2.2.2.2.2.1, hD⟩, hS.F ht⟩) hS.2.2 (dk DJ0_isLatin1_aae02 8 rfl)

def ww_J3_checkIndex_8e157_n : List Cond := .code yJ3_checkIndex_8e157 cJ3_checkIndex_8e157 3 (some .int) :: (WdX ++ WsX)
theorem q_J3_checkIndex_8e157_n : yJ3_checkIndex_8e157.cls ≠ "java/lang/invoke/MethodHandle" ∧ yJ3_checkIndex_8e157.cls ≠ "java/lang/invoke/VarHandle" ∧ (parseMethodDescriptor yJ3_checkIndex_8e157.desc).map (fun d => d.parameters.length) = some 3 := by decide +kernel
abbrev Hd_J3_checkIndex_8e157_n : Type := (Int32 × Int32)
def B_J3_checkIndex_8e157_n (Post : Int32 → XS → Prop) (K : Hd_J3_checkIndex_8e157_n → XS → Prop) : Hd_J3_checkIndex_8e157_n → XS → Prop
  | (x0, x1), S => False
def VC_J3_checkIndex_8e157_n (Post : Int32 → XS → Prop) (a0 : Int32) (a1 : Int32) (S : XS) : Prop := ∀ K : Hd_J3_checkIndex_8e157_n → XS → Prop, (∀ h S, B_J3_checkIndex_8e157_n Post K h S → K h S) → ((a0 < 0 → K (a0, a1) S) ∧ (¬ a0 < 0 → ((a0 < a1 → Post a0 S) ∧ (¬ a0 < a1 → K (a0, a1) S))))
set_option maxHeartbeats 4000000 in
set_option maxRecDepth 100000 in
theorem h_J3_checkIndex_8e157_n_0 {p : Program} {l : Launch} {e : Env} {s : State} {m : MethodId} {below : List Frame} {meth : Method} {c : Code} {dC : Nat → ClassId} {dI : Nat → Nat → Nat} {q : Nat → Nat} {cI cT : ClassId} {en : Nat → Nat} {A : Nat → Prop} {args : Array Value} {Post : Int32 → XS → Prop} {K : Hd_J3_checkIndex_8e157_n → XS → Prop} (X : XX p s m args c cJ3_checkIndex_8e157 3 ww_J3_checkIndex_8e157_n RJ3 dC dI cI cT en A) (hr : meth.sig.returnType = (some .int)) (hlocks : meth.locks = false) (hK0 : ∀ (x0 : Int32) (x1 : Int32) (S : XS), K (x0, x1) S → ∀ (H : Heap) (locs : List Loc), va_P (dC, dI) vwCl (wX q cI cT S) H → va_D A (wX q cI cT S) → va_S A s.heap H locs → ∀ ls : Array Slot, lv_has ls 3 [(0, .int x0), (1, .int x1), (2, .null)] → W p l e (headSpec ww_J3_checkIndex_8e157_n ({ frames := 0, cells := 0, slots := 0, locals := 0 } : Room)).room s m args below meth c H locs 0 0 (MQ below (va_Qi Post (atX dC dI q cI cT A) A) args s 0 0 A) (F0 m 9 ls [])) (x0 : Int32) (x1 : Int32) (S : XS) (h : B_J3_checkIndex_8e157_n Post K (x0, x1) S) : ∀ (H : Heap) (locs : List Loc), va_P (dC, dI) vwCl (wX q cI cT S) H → va_D A (wX q cI cT S) → va_S A s.heap H locs → ∀ ls : Array Slot, lv_has ls 3 [(0, .int x0), (1, .int x1), (2, .null)] → W p l e (headSpec ww_J3_checkIndex_8e157_n ({ frames := 0, cells := 0, slots := 0, locals := 0 } : Room)).room s m args below meth c H locs 0 0 (MQ below (va_Qi Post (atX dC dI q cI cT A) A) args s 0 0 A) (F0 m 9 ls []) := by
  have hx := X.1
  have hb := X.2.1
  intro H locs hP hD hS ls hl
  exact (show False from h).elim
set_option maxHeartbeats 4000000 in
set_option maxRecDepth 100000 in
theorem m_J3_checkIndex_8e157_n {l : Launch} {dC : Nat → ClassId} {dI : Nat → Nat → Nat} {q : Nat → Nat} {cI cT : ClassId} {en : Nat → Nat} {sz : Nat} {Post : Int32 → XS → Prop} (a0 : Int32) (a1 : Int32) (S : XS) (h : VC_J3_checkIndex_8e157_n Post a0 a1 S) : Met l yJ3_checkIndex_8e157 ww_J3_checkIndex_8e157_n ({ frames := 0, cells := 0, slots := 0, locals := 0 } : Room) (va_Pc [.int a0, .int a1, .null] (preX dC dI q cI cT en S sz)) (va_Qi Post (atX dC dI q cI cT (va_A (wX q cI cT S) sz)) (va_A (wX q cI cT S) sz)) 0 0 (va_A (wX q cI cT S) sz) := by
  refine oX (cc := cJ3_checkIndex_8e157) (maxL := 3) (ret := (some .int)) (Qc := fun A => va_Qi Post (atX dC dI q cI cT A) A) (own := RJ3) (by decide) rfl (fun w h => List.mem_cons_of_mem _ (List.mem_append_right _ h)) rfl (Nat.le_of_ble_eq_true rfl) (fun p e s m below meth c A ls X hr hlocks hP hD hS hl => ?_)
  have hx := X.1
  have hb := X.2.1
  have hl : lv_has ls 3 [(0, .int a0), (1, .int a1), (2, .null)] := hl
  generalize hargs : ([.int a0, .int a1, .null] : List Value).toArray = args at X ⊢
  have h := h (fun hd S => match hd with | (x0, x1) => ∀ (H : Heap) (locs : List Loc), va_P (dC, dI) vwCl (wX q cI cT S) H → va_D A (wX q cI cT S) → va_S A s.heap H locs → ∀ ls : Array Slot, lv_has ls 3 [(0, .int x0), (1, .int x1), (2, .null)] → W p l e (headSpec ww_J3_checkIndex_8e157_n ({ frames := 0, cells := 0, slots := 0, locals := 0 } : Room)).room s m args below meth c H locs 0 0 (MQ below (va_Qi Post (atX dC dI q cI cT A) A) args s 0 0 A) (F0 m 9 ls [])) ?_
  · skip
    refine lv_iload_n hx hb (dk DJ3_checkIndex_8e157 0 rfl) rfl (lv_at hl 0 rfl) ?_
    refine lv_if_lt (tgt := 9) hx hb (dk DJ3_checkIndex_8e157 1 rfl) (by decide) (fun hc => ?_) (fun hc => ?_)
    · have h := h.1 hc
      exact h _ _ hP hD hS ls (lv_sub hl [0, 1, 2] rfl)
    · have h := h.2 hc
      refine lv_iload_n hx hb (dk DJ3_checkIndex_8e157 2 rfl) rfl (lv_at hl 0 rfl) ?_
      refine lv_iload_n hx hb (dk DJ3_checkIndex_8e157 3 rfl) rfl (lv_at hl 1 rfl) ?_
      refine lv_icmp_lt (tgt := 16) hx hb (dk DJ3_checkIndex_8e157 4 rfl) (by decide) (fun hc => ?_) (fun hc => ?_)
      · have h := h.1 hc
        refine lv_iload_n hx hb (dk DJ3_checkIndex_8e157 10 rfl) rfl (lv_at hl 0 rfl) ?_
        exact W.iret (v := a0) hx hb hr (fun t ht hW => ⟨⟨_, _, rfl, h, by rw [ht]; exact hP, va_K.moved hW.alike X.2.2.2.2.2.2.1, hD⟩, hS.F ht⟩) hS.2.2 (dk DJ3_checkIndex_8e157 11 rfl)
      · have h := h.2 hc
        exact h _ _ hP hD hS ls (lv_sub hl [0, 1, 2] rfl)
  · rintro ⟨x0, x1⟩ S hB
    exact h_J3_checkIndex_8e157_n_0 X hr hlocks (hK0 := fun _ _ _ h => h) x0 x1 S hB

def ww_J3_checkIndex_8e157_t : List Cond := .code yJ3_checkIndex_8e157 cJ3_checkIndex_8e157 3 (some .int) :: (WdX ++ WsX)
theorem q_J3_checkIndex_8e157_t : yJ3_checkIndex_8e157.cls ≠ "java/lang/invoke/MethodHandle" ∧ yJ3_checkIndex_8e157.cls ≠ "java/lang/invoke/VarHandle" ∧ (parseMethodDescriptor yJ3_checkIndex_8e157.desc).map (fun d => d.parameters.length) = some 3 := by decide +kernel
abbrev Hd_J3_checkIndex_8e157_t : Type := (Int32 × Int32 × Nat)
def B_J3_checkIndex_8e157_t (Post : Int32 → XS → Prop) (K : Hd_J3_checkIndex_8e157_t → XS → Prop) : Hd_J3_checkIndex_8e157_t → XS → Prop
  | (x0, x1, x2), S => False
def VC_J3_checkIndex_8e157_t (Post : Int32 → XS → Prop) (a0 : Int32) (a1 : Int32) (a2 : Nat) (S : XS) : Prop := ∀ K : Hd_J3_checkIndex_8e157_t → XS → Prop, (∀ h S, B_J3_checkIndex_8e157_t Post K h S → K h S) → ((a0 < 0 → K (a0, a1, a2) S) ∧ (¬ a0 < 0 → ((a0 < a1 → Post a0 S) ∧ (¬ a0 < a1 → K (a0, a1, a2) S))))
set_option maxHeartbeats 4000000 in
set_option maxRecDepth 100000 in
theorem h_J3_checkIndex_8e157_t_0 {p : Program} {l : Launch} {e : Env} {s : State} {m : MethodId} {below : List Frame} {meth : Method} {c : Code} {dC : Nat → ClassId} {dI : Nat → Nat → Nat} {q : Nat → Nat} {cI cT : ClassId} {en : Nat → Nat} {A : Nat → Prop} {args : Array Value} {Post : Int32 → XS → Prop} {K : Hd_J3_checkIndex_8e157_t → XS → Prop} (X : XX p s m args c cJ3_checkIndex_8e157 3 ww_J3_checkIndex_8e157_t RJ3 dC dI cI cT en A) (hr : meth.sig.returnType = (some .int)) (hlocks : meth.locks = false) (hK0 : ∀ (x0 : Int32) (x1 : Int32) (x2 : Nat) (S : XS), K (x0, x1, x2) S → ∀ (H : Heap) (locs : List Loc), va_P (dC, dI) vwCl (wX q cI cT S) H → va_D A (wX q cI cT S) → va_S A s.heap H locs → ∀ ls : Array Slot, lv_has ls 3 [(0, .int x0), (1, .int x1), (2, .ref x2)] → W p l e (headSpec ww_J3_checkIndex_8e157_t ({ frames := 0, cells := 0, slots := 0, locals := 0 } : Room)).room s m args below meth c H locs 0 0 (MQ below (va_Qi Post (atX dC dI q cI cT A) A) args s 0 0 A) (F0 m 9 ls [])) (x0 : Int32) (x1 : Int32) (x2 : Nat) (S : XS) (h : B_J3_checkIndex_8e157_t Post K (x0, x1, x2) S) : ∀ (H : Heap) (locs : List Loc), va_P (dC, dI) vwCl (wX q cI cT S) H → va_D A (wX q cI cT S) → va_S A s.heap H locs → ∀ ls : Array Slot, lv_has ls 3 [(0, .int x0), (1, .int x1), (2, .ref x2)] → W p l e (headSpec ww_J3_checkIndex_8e157_t ({ frames := 0, cells := 0, slots := 0, locals := 0 } : Room)).room s m args below meth c H locs 0 0 (MQ below (va_Qi Post (atX dC dI q cI cT A) A) args s 0 0 A) (F0 m 9 ls []) := by
  have hx := X.1
  have hb := X.2.1
  intro H locs hP hD hS ls hl
  exact (show False from h).elim
set_option maxHeartbeats 4000000 in
set_option maxRecDepth 100000 in
theorem m_J3_checkIndex_8e157_t {l : Launch} {dC : Nat → ClassId} {dI : Nat → Nat → Nat} {q : Nat → Nat} {cI cT : ClassId} {en : Nat → Nat} {sz : Nat} {Post : Int32 → XS → Prop} (a0 : Int32) (a1 : Int32) (a2 : Nat) (S : XS) (h : VC_J3_checkIndex_8e157_t Post a0 a1 a2 S) : Met l yJ3_checkIndex_8e157 ww_J3_checkIndex_8e157_t ({ frames := 0, cells := 0, slots := 0, locals := 0 } : Room) (va_Pc [.int a0, .int a1, .ref a2] (preX dC dI q cI cT en S sz)) (va_Qi Post (atX dC dI q cI cT (va_A (wX q cI cT S) sz)) (va_A (wX q cI cT S) sz)) 0 0 (va_A (wX q cI cT S) sz) := by
  refine oX (cc := cJ3_checkIndex_8e157) (maxL := 3) (ret := (some .int)) (Qc := fun A => va_Qi Post (atX dC dI q cI cT A) A) (own := RJ3) (by decide) rfl (fun w h => List.mem_cons_of_mem _ (List.mem_append_right _ h)) rfl (Nat.le_of_ble_eq_true rfl) (fun p e s m below meth c A ls X hr hlocks hP hD hS hl => ?_)
  have hx := X.1
  have hb := X.2.1
  have hl : lv_has ls 3 [(0, .int a0), (1, .int a1), (2, .ref a2)] := hl
  generalize hargs : ([.int a0, .int a1, .ref a2] : List Value).toArray = args at X ⊢
  have h := h (fun hd S => match hd with | (x0, x1, x2) => ∀ (H : Heap) (locs : List Loc), va_P (dC, dI) vwCl (wX q cI cT S) H → va_D A (wX q cI cT S) → va_S A s.heap H locs → ∀ ls : Array Slot, lv_has ls 3 [(0, .int x0), (1, .int x1), (2, .ref x2)] → W p l e (headSpec ww_J3_checkIndex_8e157_t ({ frames := 0, cells := 0, slots := 0, locals := 0 } : Room)).room s m args below meth c H locs 0 0 (MQ below (va_Qi Post (atX dC dI q cI cT A) A) args s 0 0 A) (F0 m 9 ls [])) ?_
  · skip
    refine lv_iload_n hx hb (dk DJ3_checkIndex_8e157 0 rfl) rfl (lv_at hl 0 rfl) ?_
    refine lv_if_lt (tgt := 9) hx hb (dk DJ3_checkIndex_8e157 1 rfl) (by decide) (fun hc => ?_) (fun hc => ?_)
    · have h := h.1 hc
      exact h _ _ hP hD hS ls (lv_sub hl [0, 1, 2] rfl)
    · have h := h.2 hc
      refine lv_iload_n hx hb (dk DJ3_checkIndex_8e157 2 rfl) rfl (lv_at hl 0 rfl) ?_
      refine lv_iload_n hx hb (dk DJ3_checkIndex_8e157 3 rfl) rfl (lv_at hl 1 rfl) ?_
      refine lv_icmp_lt (tgt := 16) hx hb (dk DJ3_checkIndex_8e157 4 rfl) (by decide) (fun hc => ?_) (fun hc => ?_)
      · have h := h.1 hc
        refine lv_iload_n hx hb (dk DJ3_checkIndex_8e157 10 rfl) rfl (lv_at hl 0 rfl) ?_
        exact W.iret (v := a0) hx hb hr (fun t ht hW => ⟨⟨_, _, rfl, h, by rw [ht]; exact hP, va_K.moved hW.alike X.2.2.2.2.2.2.1, hD⟩, hS.F ht⟩) hS.2.2 (dk DJ3_checkIndex_8e157 11 rfl)
      · have h := h.2 hc
        exact h _ _ hP hD hS ls (lv_sub hl [0, 1, 2] rfl)
  · rintro ⟨x0, x1, x2⟩ S hB
    exact h_J3_checkIndex_8e157_t_0 X hr hlocks (hK0 := fun _ _ _ _ h => h) x0 x1 x2 S hB

def ww_J0_checkIndex_df160 : List Cond := .code yJ0_checkIndex_df160 cJ0_checkIndex_df160 2 none :: (WdX ++ WsX)
theorem q_J0_checkIndex_df160 : yJ0_checkIndex_df160.cls ≠ "java/lang/invoke/MethodHandle" ∧ yJ0_checkIndex_df160.cls ≠ "java/lang/invoke/VarHandle" ∧ (parseMethodDescriptor yJ0_checkIndex_df160.desc).map (fun d => d.parameters.length) = some 2 := by decide +kernel
def VC_J0_checkIndex_df160 (Post : XS → Prop) (a0 : Int32) (a1 : Int32) (S : XS) : Prop := (VC_J3_checkIndex_8e157_n (fun r3 S2 => Post S2) a0 a1 S ∧ ∀ t1 : Nat, VC_J3_checkIndex_8e157_t (fun r5 S4 => Post S4) a0 a1 t1 S)
set_option maxHeartbeats 4000000 in
set_option maxRecDepth 100000 in
theorem m_J0_checkIndex_df160 {l : Launch} {dC : Nat → ClassId} {dI : Nat → Nat → Nat} {q : Nat → Nat} {cI cT : ClassId} {en : Nat → Nat} {sz : Nat} {Post : XS → Prop} (a0 : Int32) (a1 : Int32) (S : XS) (h : VC_J0_checkIndex_df160 Post a0 a1 S) : Met l yJ0_checkIndex_df160 ww_J0_checkIndex_df160 ({ frames := 1, cells := 0, slots := 0, locals := 22 } : Room) (va_Pc [.int a0, .int a1] (preX dC dI q cI cT en S sz)) (va_Qv Post (atX dC dI q cI cT (va_A (wX q cI cT S) sz)) (va_A (wX q cI cT S) sz)) 0 0 (va_A (wX q cI cT S) sz) := by
  refine oX (cc := cJ0_checkIndex_df160) (maxL := 2) (ret := none) (Qc := fun A => va_Qv Post (atX dC dI q cI cT A) A) (own := RJ0) (by decide) rfl (fun w h => List.mem_cons_of_mem _ (List.mem_append_right _ h)) rfl (Nat.le_of_ble_eq_true rfl) (fun p e s m below meth c A ls X hr hlocks hP hD hS hl => ?_)
  have hx := X.1
  have hb := X.2.1
  have hl : lv_has ls 2 [(0, .int a0), (1, .int a1)] := hl
  have lk1053 := X.2.2.2.2.1 (.fieldLink RJ0 1053 "jdk/internal/util/Preconditions" "SIOOBE_FORMATTER" "Ljava/util/function/BiFunction;") (inX 189 rfl)
  dsimp only [VC_J0_checkIndex_df160] at h
  refine lv_iload_n hx hb (dk DJ0_checkIndex_df160 0 rfl) rfl (lv_at hl 0 rfl) ?_
  refine lv_iload_n hx hb (dk DJ0_checkIndex_df160 1 rfl) rfl (lv_at hl 1 rfl) ?_
  rcases zqX X with hz | ⟨t1, hz⟩
  · have h := h.1
    refine va_gets hx hb hz hS X.2.2.2.1 lk1053 (fun _ h => h) (dk DJ0_checkIndex_df160 2 rfl) ?_
    refine cXsi (As := [.int a0, .int a1, .null]) (rest := []) X (m_J3_checkIndex_8e157_n (l := l) (dC := dC) (dI := dI) (q := q) (cI := cI) (cT := cT) (en := en) (sz := _) a0 a1 S h) (va_cwS 3 X.2.2.2.2.1 (gxS 190 191 192 187 rfl rfl rfl rfl) rfl rfl rfl q_J3_checkIndex_8e157_n ⟨Nat.le_of_ble_eq_true rfl, Nat.le_of_ble_eq_true rfl⟩) hP hD hS rfl hl.1 rfl (Nat.le_of_ble_eq_true rfl) (dk DJ0_checkIndex_df160 3 rfl) (fun r3 S2 H locs h hP hD hS => ?_)
    refine lv_pop hx hb (dk DJ0_checkIndex_df160 4 rfl) rfl ?_
    exact W.vret hx hb hr (fun t ht hW => ⟨⟨_, rfl, h, by rw [ht]; exact hP, va_K.moved hW.alike X.2.2.2.2.2.2.1, hD⟩, hS.F ht⟩) hS.2.2 (dk DJ0_checkIndex_df160 5 rfl)
  · have h := h.2 t1
    refine va_gets hx hb hz hS X.2.2.2.1 lk1053 (fun _ h => h) (dk DJ0_checkIndex_df160 2 rfl) ?_
    refine cXsi (As := [.int a0, .int a1, .ref t1]) (rest := []) X (m_J3_checkIndex_8e157_t (l := l) (dC := dC) (dI := dI) (q := q) (cI := cI) (cT := cT) (en := en) (sz := _) a0 a1 t1 S h) (va_cwS 3 X.2.2.2.2.1 (gxS 190 191 192 187 rfl rfl rfl rfl) rfl rfl rfl q_J3_checkIndex_8e157_t ⟨Nat.le_of_ble_eq_true rfl, Nat.le_of_ble_eq_true rfl⟩) hP hD hS rfl hl.1 rfl (Nat.le_of_ble_eq_true rfl) (dk DJ0_checkIndex_df160 3 rfl) (fun r5 S4 H locs h hP hD hS => ?_)
    refine lv_pop hx hb (dk DJ0_checkIndex_df160 4 rfl) rfl ?_
    exact W.vret hx hb hr (fun t ht hW => ⟨⟨_, rfl, h, by rw [ht]; exact hP, va_K.moved hW.alike X.2.2.2.2.2.2.1, hD⟩, hS.F ht⟩) hS.2.2 (dk DJ0_checkIndex_df160 5 rfl)

def ww_J1_charAt_3b067_103 : List Cond := .code yJ1_charAt_3b067 cJ1_charAt_3b067 2 (some .char) :: (WdX ++ WsX)
theorem q_J1_charAt_3b067_103 : yJ1_charAt_3b067.cls ≠ "java/lang/invoke/MethodHandle" ∧ yJ1_charAt_3b067.cls ≠ "java/lang/invoke/VarHandle" ∧ (parseMethodDescriptor yJ1_charAt_3b067.desc).map (fun d => d.parameters.length) = some 2 := by decide +kernel
def VC_J1_charAt_3b067_103 (Post : Int32 → XS → Prop) (a1 : Int32) (S : XS) : Prop := VC_J0_checkIndex_df160 (fun S1 => vp_in a1 134 ∧ narrow .char (.int ((((eW.getD a1.toNatClampNeg 0) &&& 255).toUInt32 % 65536).toInt32)) = .int ((((eW.getD a1.toNatClampNeg 0) &&& 255).toUInt32 % 65536).toInt32) ∧ Post ((((eW.getD a1.toNatClampNeg 0) &&& 255).toUInt32 % 65536).toInt32) S1) a1 134 S
set_option maxHeartbeats 4000000 in
set_option maxRecDepth 100000 in
theorem m_J1_charAt_3b067_103 {l : Launch} {dC : Nat → ClassId} {dI : Nat → Nat → Nat} {q : Nat → Nat} {cI cT : ClassId} {en : Nat → Nat} {sz : Nat} {Post : Int32 → XS → Prop} (a1 : Int32) (S : XS) (h : VC_J1_charAt_3b067_103 Post a1 S) : Met l yJ1_charAt_3b067 ww_J1_charAt_3b067_103 ({ frames := 2, cells := 0, slots := 0, locals := 43 } : Room) (va_Pc [.ref (en 3), .int a1] (preX dC dI q cI cT en S sz)) (va_Qi Post (atX dC dI q cI cT (va_A (wX q cI cT S) sz)) (va_A (wX q cI cT S) sz)) 0 0 (va_A (wX q cI cT S) sz) := by
  refine oX (cc := cJ1_charAt_3b067) (maxL := 2) (ret := (some .char)) (Qc := fun A => va_Qi Post (atX dC dI q cI cT A) A) (own := RJ1) (by decide) rfl (fun w h => List.mem_cons_of_mem _ (List.mem_append_right _ h)) rfl (Nat.le_of_ble_eq_true rfl) (fun p e s m below meth c A ls X hr hlocks hP hD hS hl => ?_)
  have hx := X.1
  have hb := X.2.1
  have hl : lv_has ls 2 [(0, .ref (en 3)), (1, .int a1)] := hl
  dsimp only [VC_J1_charAt_3b067_103] at h
  refine lv_iload_n hx hb (dk DJ1_charAt_3b067 0 rfl) rfl (lv_at hl 1 rfl) ?_
  refine lv_aload_n hx hb (dk DJ1_charAt_3b067 1 rfl) rfl (lv_at hl 0 rfl) ?_
  refine alE_3 X hS (dk DJ1_charAt_3b067 2 rfl) ?_
  refine cXsv (As := [.int a1, .int 134]) (rest := []) X (m_J0_checkIndex_df160 (l := l) (dC := dC) (dI := dI) (q := q) (cI := cI) (cT := cT) (en := en) (sz := _) a1 134 S h) (va_cwS 2 X.2.2.2.2.1 (gxS 194 195 185 188 rfl rfl rfl rfl) rfl rfl rfl q_J0_checkIndex_df160 ⟨Nat.le_of_ble_eq_true rfl, Nat.le_of_ble_eq_true rfl⟩) hP hD hS rfl hl.1 rfl (Nat.le_of_ble_eq_true rfl) (dk DJ1_charAt_3b067 3 rfl) (fun S1 H locs h hP hD hS => ?_)
  refine lv_aload_n hx hb (dk DJ1_charAt_3b067 4 rfl) rfl (lv_at hl 0 rfl) ?_
  refine lv_iload_n hx hb (dk DJ1_charAt_3b067 5 rfl) rfl (lv_at hl 1 rfl) ?_
  obtain ⟨hin, h⟩ := h
  refine ldE_3 X hS hin (dk DJ1_charAt_3b067 6 rfl) ?_
  refine lv_sipush (v := 255) hx hb (dk DJ1_charAt_3b067 7 rfl) (by decide) ?_
  refine lv_iand hx hb (dk DJ1_charAt_3b067 8 rfl) ?_
  refine lv_i2c hx hb (dk DJ1_charAt_3b067 9 rfl) rfl ?_
  obtain ⟨hz, h⟩ := h
  exact W.zret (v := (((eW.getD a1.toNatClampNeg 0) &&& 255).toUInt32 % 65536).toInt32) hx hb hr hz (fun t ht hW => ⟨⟨_, _, rfl, h, by rw [ht]; exact hP, va_K.moved hW.alike X.2.2.2.2.2.2.1, hD⟩, hS.F ht⟩) hS.2.2 (dk DJ1_charAt_3b067 10 rfl)

def ww_J0_charAt_5068e_101 : List Cond := .code yJ0_charAt_5068e cJ0_charAt_5068e 2 (some .char) :: (WdX ++ WsX)
theorem q_J0_charAt_5068e_101 : yJ0_charAt_5068e.cls = RJ0 ∧ yJ0_charAt_5068e.cls ≠ "java/lang/invoke/MethodHandle" ∧ yJ0_charAt_5068e.cls ≠ "java/lang/invoke/VarHandle" ∧ (parseMethodDescriptor yJ0_charAt_5068e.desc).map (fun d => d.parameters.length) = some 1 := by decide +kernel
def VC_J0_charAt_5068e_101 (Post : Int32 → XS → Prop) (a0 : Int32) (S : XS) : Prop := VC_J0_isLatin1_aae02_101 (fun r2 S1 => ((r2 = 0 → False) ∧ (¬ r2 = 0 → VC_J1_charAt_3b067_103 (fun r4 S3 => narrow .char (.int r4) = .int r4 ∧ Post r4 S3) a0 S1))) S
set_option maxHeartbeats 4000000 in
set_option maxRecDepth 100000 in
theorem m_J0_charAt_5068e_101 {l : Launch} {dC : Nat → ClassId} {dI : Nat → Nat → Nat} {q : Nat → Nat} {cI cT : ClassId} {en : Nat → Nat} {sz : Nat} {Post : Int32 → XS → Prop} (a0 : Int32) (S : XS) (h : VC_J0_charAt_5068e_101 Post a0 S) : Met l yJ0_charAt_5068e ww_J0_charAt_5068e_101 ({ frames := 3, cells := 0, slots := 0, locals := 64 } : Room) (va_Pc [.ref (en 1), .int a0] (preX dC dI q cI cT en S sz)) (va_Qi Post (atX dC dI q cI cT (va_A (wX q cI cT S) sz)) (va_A (wX q cI cT S) sz)) 0 0 (va_A (wX q cI cT S) sz) := by
  refine oX (cc := cJ0_charAt_5068e) (maxL := 2) (ret := (some .char)) (Qc := fun A => va_Qi Post (atX dC dI q cI cT A) A) (own := RJ0) (by decide) rfl (fun w h => List.mem_cons_of_mem _ (List.mem_append_right _ h)) rfl (Nat.le_of_ble_eq_true rfl) (fun p e s m below meth c A ls X hr hlocks hP hD hS hl => ?_)
  have hx := X.1
  have hb := X.2.1
  have hl : lv_has ls 2 [(0, .ref (en 1)), (1, .int a0)] := hl
  have lk9 := X.2.2.2.2.1 (.fieldLink RJ0 9 "java/lang/String" "value" "[B") (inX 181 rfl)
  dsimp only [VC_J0_charAt_5068e_101] at h
  refine lv_aload_n hx hb (dk DJ0_charAt_5068e 0 rfl) rfl (lv_at hl 0 rfl) ?_
  refine cXi (As := []) (rest := []) X (m_J0_isLatin1_aae02_101 (l := l) (dC := dC) (dI := dI) (q := q) (cI := cI) (cT := cT) (en := en) (sz := _) S h) (cwV 0 X.2.2.2.2.1 (gxV 211 212 213 185 186 rfl rfl rfl rfl rfl) rfl rfl rfl q_J0_isLatin1_aae02_101 ⟨Nat.le_of_ble_eq_true rfl, Nat.le_of_ble_eq_true rfl⟩) (rE_1 X hS) hP hD hS rfl hl.1 rfl (Nat.le_of_ble_eq_true rfl) (dk DJ0_charAt_5068e 1 rfl) (fun r2 S1 H locs h hP hD hS => ?_)
  refine lv_if_eq (tgt := 16) hx hb (dk DJ0_charAt_5068e 2 rfl) (by decide) (fun hc => ?_) (fun hc => ?_)
  · have h := h.1 hc
    refine lv_aload_n hx hb (dk DJ0_charAt_5068e 8 rfl) rfl (lv_at hl 0 rfl) ?_
    refine gE_1_value X hS lk9 (dk DJ0_charAt_5068e 9 rfl) ?_
    refine lv_iload_n hx hb (dk DJ0_charAt_5068e 10 rfl) rfl (lv_at hl 1 rfl) ?_
    exact h.elim
  · have h := h.2 hc
    refine lv_aload_n hx hb (dk DJ0_charAt_5068e 3 rfl) rfl (lv_at hl 0 rfl) ?_
    refine gE_1_value X hS lk9 (dk DJ0_charAt_5068e 4 rfl) ?_
    refine lv_iload_n hx hb (dk DJ0_charAt_5068e 5 rfl) rfl (lv_at hl 1 rfl) ?_
    refine cXsi (As := [.ref (en 3), .int a0]) (rest := []) X (m_J1_charAt_3b067_103 (l := l) (dC := dC) (dI := dI) (q := q) (cI := cI) (cT := cT) (en := en) (sz := _) a0 S1 h) (va_cwS 2 X.2.2.2.2.1 (gxS 214 215 216 193 rfl rfl rfl rfl) rfl rfl rfl q_J1_charAt_3b067_103 ⟨Nat.le_of_ble_eq_true rfl, Nat.le_of_ble_eq_true rfl⟩) hP hD hS rfl hl.1 rfl (Nat.le_of_ble_eq_true rfl) (dk DJ0_charAt_5068e 6 rfl) (fun r4 S3 H locs h hP hD hS => ?_)
    obtain ⟨hz, h⟩ := h
    exact W.zret (v := r4) hx hb hr hz (fun t ht hW => ⟨⟨_, _, rfl, h, by rw [ht]; exact hP, va_K.moved hW.alike X.2.2.2.2.2.2.1, hD⟩, hS.F ht⟩) hS.2.2 (dk DJ0_charAt_5068e 7 rfl)

def ww_X3_isWord_43 : List Cond := .code yX3_isWord cX3_isWord 4 (some .boolean) :: (WdX ++ WsX)
theorem q_X3_isWord_43 : yX3_isWord.cls = RX3 ∧ yX3_isWord.cls ≠ "java/lang/invoke/MethodHandle" ∧ yX3_isWord.cls ≠ "java/lang/invoke/VarHandle" ∧ (parseMethodDescriptor yX3_isWord.desc).map (fun d => d.parameters.length) = some 2 := by decide +kernel
abbrev Hd_X3_isWord_43 : Type := (Int32 × Int32 × Int32)
def B_X3_isWord_43 (Post : Int32 → XS → Prop) (K : Hd_X3_isWord_43 → XS → Prop) : Hd_X3_isWord_43 → XS → Prop
  | (x1, x2, x3), S => ((x2 ≤ x3 → Post 1 S) ∧ (¬ x2 ≤ x3 → VC_J0_charAt_5068e_101 (fun r2 S1 => vp_in (((S1.1 1382) + x3) - x1) 300 ∧ ((r2 = ((S1.2.1 42) (((S1.1 1382) + x3) - x1).toNatClampNeg) → ∀ v3 : Int32, v3 = x3 + 1 → K (x1, x2, v3) S1) ∧ (¬ r2 = ((S1.2.1 42) (((S1.1 1382) + x3) - x1).toNatClampNeg) → Post 0 S1))) x3 S))
def VC_X3_isWord_43 (Post : Int32 → XS → Prop) (a0 : Int32) (a1 : Int32) (S : XS) : Prop := ∀ K : Hd_X3_isWord_43 → XS → Prop, (∀ h S, B_X3_isWord_43 Post K h S → K h S) → (((a1 - a0) = ((S.1 1380) - (S.1 1382)) → K (a0, a1, a0) S) ∧ (¬ (a1 - a0) = ((S.1 1380) - (S.1 1382)) → Post 0 S))
set_option maxHeartbeats 4000000 in
set_option maxRecDepth 100000 in
theorem h_X3_isWord_43_0 {p : Program} {l : Launch} {e : Env} {s : State} {m : MethodId} {below : List Frame} {meth : Method} {c : Code} {dC : Nat → ClassId} {dI : Nat → Nat → Nat} {q : Nat → Nat} {cI cT : ClassId} {en : Nat → Nat} {A : Nat → Prop} {args : Array Value} {Post : Int32 → XS → Prop} {K : Hd_X3_isWord_43 → XS → Prop} (X : XX p s m args c cX3_isWord 4 ww_X3_isWord_43 RX3 dC dI cI cT en A) (hr : meth.sig.returnType = (some .boolean)) (hlocks : meth.locks = false) (hK0 : ∀ (x1 : Int32) (x2 : Int32) (x3 : Int32) (S : XS), K (x1, x2, x3) S → ∀ (H : Heap) (locs : List Loc), va_P (dC, dI) vwCl (wX q cI cT S) H → va_D A (wX q cI cT S) → va_S A s.heap H locs → ∀ ls : Array Slot, lv_has ls 4 [(0, .ref (q 43)), (1, .int x1), (2, .int x2), (3, .int x3)] → W p l e (headSpec ww_X3_isWord_43 ({ frames := 4, cells := 0, slots := 0, locals := 85 } : Room)).room s m args below meth c H locs 0 0 (MQ below (va_Qi Post (atX dC dI q cI cT A) A) args s 0 0 A) (F0 m 19 ls [])) (x1 : Int32) (x2 : Int32) (x3 : Int32) (S : XS) (h : B_X3_isWord_43 Post K (x1, x2, x3) S) : ∀ (H : Heap) (locs : List Loc), va_P (dC, dI) vwCl (wX q cI cT S) H → va_D A (wX q cI cT S) → va_S A s.heap H locs → ∀ ls : Array Slot, lv_has ls 4 [(0, .ref (q 43)), (1, .int x1), (2, .int x2), (3, .int x3)] → W p l e (headSpec ww_X3_isWord_43 ({ frames := 4, cells := 0, slots := 0, locals := 85 } : Room)).room s m args below meth c H locs 0 0 (MQ below (va_Qi Post (atX dC dI q cI cT A) A) args s 0 0 A) (F0 m 19 ls []) := by
  have hx := X.1
  have hb := X.2.1
  intro H locs hP hD hS ls hl
  have lk39 := X.2.2.2.2.1 (.fieldLink RX3 39 "BreathOnLoan$Parser" "next" "I") (inX 220 rfl)
  have lk141 := X.2.2.2.2.1 (.fieldLink RX3 141 "BreathOnLoan$Parser" "place" "I") (inX 221 rfl)
  have lk28 := X.2.2.2.2.1 (.fieldLink RX3 28 "BreathOnLoan$Parser" "tape" "LBreathOnLoan$Tape;") (inX 174 rfl)
  have lk149 := X.2.2.2.2.1 (.fieldLink RX3 149 "BreathOnLoan$Tape" "bytes" "[I") (inX 222 rfl)
  dsimp only [B_X3_isWord_43] at h
  refine lv_iload_n hx hb (dk DX3_isWord 13 rfl) rfl (lv_at hl 3 rfl) ?_
  refine lv_iload_n hx hb (dk DX3_isWord 14 rfl) rfl (lv_at hl 2 rfl) ?_
  refine lv_icmp_ge (tgt := 57) hx hb (dk DX3_isWord 15 rfl) (by decide) (fun hc => ?_) (fun hc => ?_)
  · have h := h.1 hc
    refine lv_iconst (v := 1) hx hb (dk DX3_isWord 34 rfl) (by decide) ?_
    exact W.zret (v := 1) hx hb hr (by decide) (fun t ht hW => ⟨⟨_, _, rfl, h, by rw [ht]; exact hP, va_K.moved hW.alike X.2.2.2.2.2.2.1, hD⟩, hS.F ht⟩) hS.2.2 (dk DX3_isWord 35 rfl)
  · have h := h.2 hc
    refine lsX_1 X (dk DX3_isWord 16 rfl) ?_
    refine lv_iload_n hx hb (dk DX3_isWord 17 rfl) rfl (lv_at hl 3 rfl) ?_
    refine cXi (As := [.int x3]) (rest := []) X (m_J0_charAt_5068e_101 (l := l) (dC := dC) (dI := dI) (q := q) (cI := cI) (cT := cT) (en := en) (sz := _) x3 S h) (cwV 1 X.2.2.2.2.1 (gxV 223 224 225 185 219 rfl rfl rfl rfl rfl) rfl rfl rfl q_J0_charAt_5068e_101 ⟨Nat.le_of_ble_eq_true rfl, Nat.le_of_ble_eq_true rfl⟩) (rE_1 X hS) hP hD hS rfl hl.1 rfl (Nat.le_of_ble_eq_true rfl) (dk DX3_isWord 18 rfl) (fun r2 S1 H locs h hP hD hS => ?_)
    refine lv_aload_n hx hb (dk DX3_isWord 19 rfl) rfl (lv_at hl 0 rfl) ?_
    refine gX_43 X hP 3 (by decide) rfl lk28 (dk DX3_isWord 20 rfl) ?_
    refine gX_41 X hP 0 (by decide) rfl lk149 (dk DX3_isWord 21 rfl) ?_
    refine lv_aload_n hx hb (dk DX3_isWord 22 rfl) rfl (lv_at hl 0 rfl) ?_
    refine gX_43 X hP 6 (by decide) rfl lk141 (dk DX3_isWord 23 rfl) ?_
    refine lv_iload_n hx hb (dk DX3_isWord 24 rfl) rfl (lv_at hl 3 rfl) ?_
    refine lv_iadd hx hb (dk DX3_isWord 25 rfl) ?_
    refine lv_iload_n hx hb (dk DX3_isWord 26 rfl) rfl (lv_at hl 1 rfl) ?_
    refine lv_isub hx hb (dk DX3_isWord 27 rfl) ?_
    obtain ⟨hin, h⟩ := h
    refine ldX_42 X hP hin (dk DX3_isWord 28 rfl) ?_
    refine lv_icmp_eq (tgt := 51) hx hb (dk DX3_isWord 29 rfl) (by decide) (fun hc => ?_) (fun hc => ?_)
    · have h := h.1 hc
      obtain ⟨v3, ev3⟩ : ∃ y : Int32, y = x3 + 1 := ⟨_, rfl⟩
      have h := h v3 ev3
      refine lv_iinc (v := v3) (lv' := [(3, .int v3), (0, .ref (q 43)), (1, .int x1), (2, .int x2)]) hx hb (dk DX3_isWord 32 rfl) hl (k := 3) rfl (by rw [ev3]; rfl) (by decide) rfl (fun ls hl => ?_)
      refine lv_goto (tgt := 19) hx hb (dk DX3_isWord 33 rfl) (by decide) ?_
      exact hK0 x1 x2 v3 S1 h _ _ hP hD hS ls (lv_sub hl [1, 2, 3, 0] rfl)
    · have h := h.2 hc
      refine lv_iconst (v := 0) hx hb (dk DX3_isWord 30 rfl) (by decide) ?_
      exact W.zret (v := 0) hx hb hr (by decide) (fun t ht hW => ⟨⟨_, _, rfl, h, by rw [ht]; exact hP, va_K.moved hW.alike X.2.2.2.2.2.2.1, hD⟩, hS.F ht⟩) hS.2.2 (dk DX3_isWord 31 rfl)
set_option maxHeartbeats 4000000 in
set_option maxRecDepth 100000 in
theorem m_X3_isWord_43 {l : Launch} {dC : Nat → ClassId} {dI : Nat → Nat → Nat} {q : Nat → Nat} {cI cT : ClassId} {en : Nat → Nat} {sz : Nat} {Post : Int32 → XS → Prop} (a0 : Int32) (a1 : Int32) (S : XS) (h : VC_X3_isWord_43 Post a0 a1 S) : Met l yX3_isWord ww_X3_isWord_43 ({ frames := 4, cells := 0, slots := 0, locals := 85 } : Room) (va_Pc [.ref (q 43), .int a0, .int a1] (preX dC dI q cI cT en S sz)) (va_Qi Post (atX dC dI q cI cT (va_A (wX q cI cT S) sz)) (va_A (wX q cI cT S) sz)) 0 0 (va_A (wX q cI cT S) sz) := by
  refine oX (cc := cX3_isWord) (maxL := 4) (ret := (some .boolean)) (Qc := fun A => va_Qi Post (atX dC dI q cI cT A) A) (own := RX3) (by decide) rfl (fun w h => List.mem_cons_of_mem _ (List.mem_append_right _ h)) rfl (Nat.le_of_ble_eq_true rfl) (fun p e s m below meth c A ls X hr hlocks hP hD hS hl => ?_)
  have hx := X.1
  have hb := X.2.1
  have hl : lv_has ls 4 [(0, .ref (q 43)), (1, .int a0), (2, .int a1)] := hl
  have lk39 := X.2.2.2.2.1 (.fieldLink RX3 39 "BreathOnLoan$Parser" "next" "I") (inX 220 rfl)
  have lk141 := X.2.2.2.2.1 (.fieldLink RX3 141 "BreathOnLoan$Parser" "place" "I") (inX 221 rfl)
  have lk28 := X.2.2.2.2.1 (.fieldLink RX3 28 "BreathOnLoan$Parser" "tape" "LBreathOnLoan$Tape;") (inX 174 rfl)
  have lk149 := X.2.2.2.2.1 (.fieldLink RX3 149 "BreathOnLoan$Tape" "bytes" "[I") (inX 222 rfl)
  generalize hargs : ([.ref (q 43), .int a0, .int a1] : List Value).toArray = args at X ⊢
  have h := h (fun hd S => match hd with | (x1, x2, x3) => ∀ (H : Heap) (locs : List Loc), va_P (dC, dI) vwCl (wX q cI cT S) H → va_D A (wX q cI cT S) → va_S A s.heap H locs → ∀ ls : Array Slot, lv_has ls 4 [(0, .ref (q 43)), (1, .int x1), (2, .int x2), (3, .int x3)] → W p l e (headSpec ww_X3_isWord_43 ({ frames := 4, cells := 0, slots := 0, locals := 85 } : Room)).room s m args below meth c H locs 0 0 (MQ below (va_Qi Post (atX dC dI q cI cT A) A) args s 0 0 A) (F0 m 19 ls [])) ?_
  · skip
    refine lv_iload_n hx hb (dk DX3_isWord 0 rfl) rfl (lv_at hl 2 rfl) ?_
    refine lv_iload_n hx hb (dk DX3_isWord 1 rfl) rfl (lv_at hl 1 rfl) ?_
    refine lv_isub hx hb (dk DX3_isWord 2 rfl) ?_
    refine lv_aload_n hx hb (dk DX3_isWord 3 rfl) rfl (lv_at hl 0 rfl) ?_
    refine gX_43 X hP 4 (by decide) rfl lk39 (dk DX3_isWord 4 rfl) ?_
    refine lv_aload_n hx hb (dk DX3_isWord 5 rfl) rfl (lv_at hl 0 rfl) ?_
    refine gX_43 X hP 6 (by decide) rfl lk141 (dk DX3_isWord 6 rfl) ?_
    refine lv_isub hx hb (dk DX3_isWord 7 rfl) ?_
    refine lv_icmp_eq (tgt := 17) hx hb (dk DX3_isWord 8 rfl) (by decide) (fun hc => ?_) (fun hc => ?_)
    · have h := h.1 hc
      refine lv_iload_n hx hb (dk DX3_isWord 11 rfl) rfl (lv_at hl 1 rfl) ?_
      refine lv_istore_n (lv' := [(3, .int a0), (0, .ref (q 43)), (1, .int a0), (2, .int a1)]) hx hb (dk DX3_isWord 12 rfl) rfl hl (by decide) rfl (fun ls hl => ?_)
      exact h _ _ hP hD hS ls (lv_sub hl [1, 2, 3, 0] rfl)
    · have h := h.2 hc
      refine lv_iconst (v := 0) hx hb (dk DX3_isWord 9 rfl) (by decide) ?_
      exact W.zret (v := 0) hx hb hr (by decide) (fun t ht hW => ⟨⟨_, _, rfl, h, by rw [ht]; exact hP, va_K.moved hW.alike X.2.2.2.2.2.2.1, hD⟩, hS.F ht⟩) hS.2.2 (dk DX3_isWord 10 rfl)
  · rintro ⟨x1, x2, x3⟩ S hB
    exact h_X3_isWord_43_0 X hr hlocks (hK0 := fun _ _ _ _ h => h) x1 x2 x3 S hB

