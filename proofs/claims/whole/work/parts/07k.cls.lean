-- X3_readNumber_43
def ww_X3_readNumber_43 : List Cond := .code yX3_readNumber cX3_readNumber 1 none :: (WdX ++ WsX)
theorem q_X3_readNumber_43 : yX3_readNumber.cls = RX3 ∧ yX3_readNumber.cls ≠ "java/lang/invoke/MethodHandle" ∧ yX3_readNumber.cls ≠ "java/lang/invoke/VarHandle" ∧ (parseMethodDescriptor yX3_readNumber.desc).map (fun d => d.parameters.length) = some 0 := by decide +kernel
abbrev Hd_X3_readNumber_43 : Type := Unit
def B_X3_readNumber_43 (Post : XS → Prop) (K : Hd_X3_readNumber_43 → XS → Prop) : Hd_X3_readNumber_43 → XS → Prop
  | (), S => (((S.1 1313) ≤ (S.1 1380) → Post S) ∧ (¬ (S.1 1313) ≤ (S.1 1380) → vp_in (S.1 1380) 300 ∧ VC_X3_isDigit (fun r4 S3 => ((r4 = 0 → Post S3) ∧ (¬ r4 = 0 → vp_in (S3.1 1380) 300 ∧ ∀ v5 : Int32, v5 = (if (((10 * (S3.1 1383)) + ((S3.2.1 42) (S3.1 1380).toNatClampNeg)) - 48) < 10000 then (((10 * (S3.1 1383)) + ((S3.2.1 42) (S3.1 1380).toNatClampNeg)) - 48) else 10000) → ∀ S6 : XS, S6 = xI S3 1383 v5 → ∀ v7 : Int32, v7 = (S6.1 1380) + 1 → ∀ S8 : XS, S8 = xI S6 1380 v7 → K () S8))) ((S.2.1 42) (S.1 1380).toNatClampNeg) S))
def VC_X3_readNumber_43 (Post : XS → Prop) (S : XS) : Prop := ∀ K : Hd_X3_readNumber_43 → XS → Prop, (∀ h S, B_X3_readNumber_43 Post K h S → K h S) → ∀ S1 : XS, S1 = xI S 1381 15 → ∀ S2 : XS, S2 = xI S1 1383 0 → K () S2
set_option maxHeartbeats 4000000 in
set_option maxRecDepth 100000 in
theorem h_X3_readNumber_43_0 {p : Program} {l : Launch} {e : Env} {s : State} {m : MethodId} {below : List Frame} {meth : Method} {c : Code} {dC : Nat → ClassId} {dI : Nat → Nat → Nat} {q : Nat → Nat} {cI cT : ClassId} {A : Nat → Prop} {args : Array Value} {Post : XS → Prop} {K : Hd_X3_readNumber_43 → XS → Prop} (X : XX p s m args c cX3_readNumber 1 ww_X3_readNumber_43 RX3 dC dI cI cT A) (hr : meth.sig.returnType = none) (hlocks : meth.locks = false) (hK0 : ∀ (S : XS), K () S → ∀ (H : Heap) (locs : List Loc), va_P (dC, dI) vwCl (wX q cI cT S) H → va_D A (wX q cI cT S) → va_S A s.heap H locs → ∀ ls : Array Slot, lv_has ls 1 [(0, .ref (q 43))] → W p l e (headSpec ww_X3_readNumber_43 ({ frames := 2, cells := 0, slots := 0, locals := 42 } : Room)).room s m args below meth c H locs 0 0 (MQ below (va_Qv Post (atX dC dI q cI cT A) A) args s 0 0 A) (F0 m 11 ls [])) (S : XS) (h : B_X3_readNumber_43 Post K () S) : ∀ (H : Heap) (locs : List Loc), va_P (dC, dI) vwCl (wX q cI cT S) H → va_D A (wX q cI cT S) → va_S A s.heap H locs → ∀ ls : Array Slot, lv_has ls 1 [(0, .ref (q 43))] → W p l e (headSpec ww_X3_readNumber_43 ({ frames := 2, cells := 0, slots := 0, locals := 42 } : Room)).room s m args below meth c H locs 0 0 (MQ below (va_Qv Post (atX dC dI q cI cT A) A) args s 0 0 A) (F0 m 11 ls []) := by
  have hx := X.1
  have hb := X.2.1
  intro H locs hP hD hS ls hl
  have lk60 := X.2.2.2.2.1 (.fieldLink RX3 60 "BreathOnLoan$Parser" "token" "I") (inX 230 rfl)
  have lk138 := X.2.2.2.2.1 (.fieldLink RX3 138 "BreathOnLoan$Parser" "value" "I") (inX 243 rfl)
  have lk39 := X.2.2.2.2.1 (.fieldLink RX3 39 "BreathOnLoan$Parser" "next" "I") (inX 222 rfl)
  have lk28 := X.2.2.2.2.1 (.fieldLink RX3 28 "BreathOnLoan$Parser" "tape" "LBreathOnLoan$Tape;") (inX 174 rfl)
  have lk144 := X.2.2.2.2.1 (.fieldLink RX3 144 "BreathOnLoan$Tape" "length" "I") (inX 229 rfl)
  have lk149 := X.2.2.2.2.1 (.fieldLink RX3 149 "BreathOnLoan$Tape" "bytes" "[I") (inX 224 rfl)
  dsimp only [B_X3_readNumber_43] at h
  refine lv_aload_n hx hb (dk DX3_readNumber 6 rfl) rfl (lv_at hl 0 rfl) ?_
  refine gX_43 X hP 4 (by decide) rfl lk39 (dk DX3_readNumber 7 rfl) ?_
  refine lv_aload_n hx hb (dk DX3_readNumber 8 rfl) rfl (lv_at hl 0 rfl) ?_
  refine gX_43 X hP 3 (by decide) rfl lk28 (dk DX3_readNumber 9 rfl) ?_
  refine gX_41 X hP 1 (by decide) rfl lk144 (dk DX3_readNumber 10 rfl) ?_
  refine lv_icmp_ge (tgt := 89) hx hb (dk DX3_readNumber 11 rfl) (by decide) (fun hc => ?_) (fun hc => ?_)
  · have h := h.1 hc
    exact W.vret hx hb hr (fun t ht hW => ⟨⟨_, rfl, h, by rw [ht]; exact hP, va_K.moved hW.alike X.2.2.2.2.2.2.1, hD⟩, hS.F ht⟩) hS.2.2 (dk DX3_readNumber 44 rfl)
  · have h := h.2 hc
    refine lv_aload_n hx hb (dk DX3_readNumber 12 rfl) rfl (lv_at hl 0 rfl) ?_
    refine gX_43 X hP 3 (by decide) rfl lk28 (dk DX3_readNumber 13 rfl) ?_
    refine gX_41 X hP 0 (by decide) rfl lk149 (dk DX3_readNumber 14 rfl) ?_
    refine lv_aload_n hx hb (dk DX3_readNumber 15 rfl) rfl (lv_at hl 0 rfl) ?_
    refine gX_43 X hP 4 (by decide) rfl lk39 (dk DX3_readNumber 16 rfl) ?_
    obtain ⟨hin, h⟩ := h
    refine ldX_42 X hP hin (dk DX3_readNumber 17 rfl) ?_
    refine cXsi (As := [.int ((S.2.1 42) (S.1 1380).toNatClampNeg)]) (rest := []) X (m_X3_isDigit (l := l) (dC := dC) (dI := dI) (q := q) (cI := cI) (cT := cT) (sz := _) ((S.2.1 42) (S.1 1380).toNatClampNeg) S h) (va_cwS 1 X.2.2.2.2.1 (gxS 245 246 233 241 rfl rfl rfl rfl) rfl rfl rfl q_X3_isDigit ⟨Nat.le_of_ble_eq_true rfl, Nat.le_of_ble_eq_true rfl⟩) hP hD hS rfl hl.1 rfl (Nat.le_of_ble_eq_true rfl) (dk DX3_readNumber 18 rfl) (fun r4 S3 H locs h hP hD hS => ?_)
    refine lv_if_eq (tgt := 89) hx hb (dk DX3_readNumber 19 rfl) (by decide) (fun hc => ?_) (fun hc => ?_)
    · have h := h.1 hc
      exact W.vret hx hb hr (fun t ht hW => ⟨⟨_, rfl, h, by rw [ht]; exact hP, va_K.moved hW.alike X.2.2.2.2.2.2.1, hD⟩, hS.F ht⟩) hS.2.2 (dk DX3_readNumber 44 rfl)
    · have h := h.2 hc
      refine lv_aload_n hx hb (dk DX3_readNumber 20 rfl) rfl (lv_at hl 0 rfl) ?_
      refine lv_sipush (v := 10000) hx hb (dk DX3_readNumber 21 rfl) (by decide) ?_
      refine lv_bipush (v := 10) hx hb (dk DX3_readNumber 22 rfl) (by decide) ?_
      refine lv_aload_n hx hb (dk DX3_readNumber 23 rfl) rfl (lv_at hl 0 rfl) ?_
      refine gX_43 X hP 7 (by decide) rfl lk138 (dk DX3_readNumber 24 rfl) ?_
      refine lv_imul hx hb (dk DX3_readNumber 25 rfl) ?_
      refine lv_aload_n hx hb (dk DX3_readNumber 26 rfl) rfl (lv_at hl 0 rfl) ?_
      refine gX_43 X hP 3 (by decide) rfl lk28 (dk DX3_readNumber 27 rfl) ?_
      refine gX_41 X hP 0 (by decide) rfl lk149 (dk DX3_readNumber 28 rfl) ?_
      refine lv_aload_n hx hb (dk DX3_readNumber 29 rfl) rfl (lv_at hl 0 rfl) ?_
      refine gX_43 X hP 4 (by decide) rfl lk39 (dk DX3_readNumber 30 rfl) ?_
      obtain ⟨hin, h⟩ := h
      refine ldX_42 X hP hin (dk DX3_readNumber 31 rfl) ?_
      refine lv_iadd hx hb (dk DX3_readNumber 32 rfl) ?_
      refine lv_bipush (v := 48) hx hb (dk DX3_readNumber 33 rfl) (by decide) ?_
      refine lv_isub hx hb (dk DX3_readNumber 34 rfl) ?_
      refine va_mmin hx hb (X.2.2.1.trans hl.1.symm) X.2.2.2.1 (X.2.2.2.2.1 (.methodLink RX3 183 Lib.Math.min.name) (inX 244 rfl)) (X.2.2.2.2.1 (.static Lib.Math.min.name) (inX 20 rfl)) (X.2.2.2.2.1 (.initialized "java/lang/Math") (inX 21 rfl)) (X.2.2.2.2.1 (.code Lib.Math.min.name Lib.Math.min.code 2 (some .int)) (inX 22 rfl)) (Nat.le_of_ble_eq_true rfl) (Nat.le_of_ble_eq_true rfl) (Nat.zero_le _) (Nat.zero_le _) (dk DX3_readNumber 35 rfl) ?_
      refine lv_topi (fun v5 ev5 => ?_)
      have h := h v5 ev5
      refine pX_43_7 X hP hD hS lk138 (dk DX3_readNumber 36 rfl) (fun S6 eS6 H locs hP hD hS => ?_)
      have h := h S6 eS6
      refine lv_aload_n hx hb (dk DX3_readNumber 37 rfl) rfl (lv_at hl 0 rfl) ?_
      refine lv_dup hx hb (dk DX3_readNumber 38 rfl) rfl ?_
      refine gX_43 X hP 4 (by decide) rfl lk39 (dk DX3_readNumber 39 rfl) ?_
      refine lv_iconst (v := 1) hx hb (dk DX3_readNumber 40 rfl) (by decide) ?_
      refine lv_iadd hx hb (dk DX3_readNumber 41 rfl) ?_
      refine lv_topi (fun v7 ev7 => ?_)
      have h := h v7 ev7
      refine pX_43_4 X hP hD hS lk39 (dk DX3_readNumber 42 rfl) (fun S8 eS8 H locs hP hD hS => ?_)
      have h := h S8 eS8
      refine lv_goto (tgt := 11) hx hb (dk DX3_readNumber 43 rfl) (by decide) ?_
      exact hK0 S8 h _ _ hP hD hS ls (lv_sub hl [0] rfl)
set_option maxHeartbeats 4000000 in
set_option maxRecDepth 100000 in
theorem m_X3_readNumber_43 {l : Launch} {dC : Nat → ClassId} {dI : Nat → Nat → Nat} {q : Nat → Nat} {cI cT : ClassId} {sz : Nat} {Post : XS → Prop} (S : XS) (h : VC_X3_readNumber_43 Post S) : Met l yX3_readNumber ww_X3_readNumber_43 ({ frames := 2, cells := 0, slots := 0, locals := 42 } : Room) (va_Pc [.ref (q 43)] (preX dC dI q cI cT S sz)) (va_Qv Post (atX dC dI q cI cT (va_A (wX q cI cT S) sz)) (va_A (wX q cI cT S) sz)) 0 0 (va_A (wX q cI cT S) sz) := by
  refine oX (cc := cX3_readNumber) (maxL := 1) (ret := none) (Qc := fun A => va_Qv Post (atX dC dI q cI cT A) A) (own := RX3) (by decide) rfl (fun w h => List.mem_cons_of_mem _ (List.mem_append_right _ h)) rfl (Nat.le_of_ble_eq_true rfl) (fun p e s m below meth c A ls X hr hlocks hP hD hS hl => ?_)
  have hx := X.1
  have hb := X.2.1
  have hl : lv_has ls 1 [(0, .ref (q 43))] := hl
  have lk60 := X.2.2.2.2.1 (.fieldLink RX3 60 "BreathOnLoan$Parser" "token" "I") (inX 230 rfl)
  have lk138 := X.2.2.2.2.1 (.fieldLink RX3 138 "BreathOnLoan$Parser" "value" "I") (inX 243 rfl)
  have lk39 := X.2.2.2.2.1 (.fieldLink RX3 39 "BreathOnLoan$Parser" "next" "I") (inX 222 rfl)
  have lk28 := X.2.2.2.2.1 (.fieldLink RX3 28 "BreathOnLoan$Parser" "tape" "LBreathOnLoan$Tape;") (inX 174 rfl)
  have lk144 := X.2.2.2.2.1 (.fieldLink RX3 144 "BreathOnLoan$Tape" "length" "I") (inX 229 rfl)
  have lk149 := X.2.2.2.2.1 (.fieldLink RX3 149 "BreathOnLoan$Tape" "bytes" "[I") (inX 224 rfl)
  generalize hargs : ([.ref (q 43)] : List Value).toArray = args at X ⊢
  have h := h (fun hd S => match hd with | () => ∀ (H : Heap) (locs : List Loc), va_P (dC, dI) vwCl (wX q cI cT S) H → va_D A (wX q cI cT S) → va_S A s.heap H locs → ∀ ls : Array Slot, lv_has ls 1 [(0, .ref (q 43))] → W p l e (headSpec ww_X3_readNumber_43 ({ frames := 2, cells := 0, slots := 0, locals := 42 } : Room)).room s m args below meth c H locs 0 0 (MQ below (va_Qv Post (atX dC dI q cI cT A) A) args s 0 0 A) (F0 m 11 ls [])) ?_
  · skip
    refine lv_aload_n hx hb (dk DX3_readNumber 0 rfl) rfl (lv_at hl 0 rfl) ?_
    refine lv_bipush (v := 15) hx hb (dk DX3_readNumber 1 rfl) (by decide) ?_
    refine pX_43_5 X hP hD hS lk60 (dk DX3_readNumber 2 rfl) (fun S1 eS1 H locs hP hD hS => ?_)
    have h := h S1 eS1
    refine lv_aload_n hx hb (dk DX3_readNumber 3 rfl) rfl (lv_at hl 0 rfl) ?_
    refine lv_iconst (v := 0) hx hb (dk DX3_readNumber 4 rfl) (by decide) ?_
    refine pX_43_7 X hP hD hS lk138 (dk DX3_readNumber 5 rfl) (fun S2 eS2 H locs hP hD hS => ?_)
    have h := h S2 eS2
    exact h _ _ hP hD hS ls (lv_sub hl [0] rfl)
  · rintro ⟨⟩ S hB
    exact h_X3_readNumber_43_0 X hr hlocks (hK0 := fun _ h => h)  S hB

