-- X3_fail_43 X3_emit_43 X3_aim_43 X3_isDigit X3_readNumber_43 X3_isLetter J0_isLatin1_aae02_102 J0_coder_7d493_102 J0_length_8abf5_102 J1_canEncode_9a6ad J1_indexOfChar_4cfef_104 J1_indexOf_4cfef_104 J0_indexOf_7cf53_102 J0_indexOf_0f7a4_102
def ww_X3_fail_43 : List Cond := .code yX3_fail cX3_fail 2 none :: (WdX ++ WsX)
theorem q_X3_fail_43 : yX3_fail.cls = RX3 ∧ yX3_fail.cls ≠ "java/lang/invoke/MethodHandle" ∧ yX3_fail.cls ≠ "java/lang/invoke/VarHandle" ∧ (parseMethodDescriptor yX3_fail.desc).map (fun d => d.parameters.length) = some 1 := by decide +kernel
def VC_X3_fail_43 (Post : XS → Prop) (a0 : Int32) (S : XS) : Prop := ((¬ (S.1 1377) = 0 → ∀ S1 : XS, S1 = xI S 1381 17 → Post S1) ∧ ((S.1 1377) = 0 → ∀ S2 : XS, S2 = xI S 1377 a0 → ∀ v3 : Int32, v3 = (S2.1 1382) → ∀ S4 : XS, S4 = xI S2 1378 v3 → ∀ S5 : XS, S5 = xI S4 1381 17 → Post S5))
set_option maxHeartbeats 4000000 in
set_option maxRecDepth 100000 in
theorem m_X3_fail_43 {l : Launch} {dC : Nat → ClassId} {dI : Nat → Nat → Nat} {q : Nat → Nat} {cI cT : ClassId} {en : Nat → Nat} {sz : Nat} {Post : XS → Prop} (a0 : Int32) (S : XS) (h : VC_X3_fail_43 Post a0 S) : Met l yX3_fail ww_X3_fail_43 ({ frames := 0, cells := 0, slots := 0, locals := 0 } : Room) (va_Pc [.ref (q 43), .int a0] (preX dC dI q cI cT en S sz)) (va_Qv Post (atX dC dI q cI cT (va_A (wX q cI cT S) sz)) (va_A (wX q cI cT S) sz)) 0 0 (va_A (wX q cI cT S) sz) := by
  refine oX (cc := cX3_fail) (maxL := 2) (ret := none) (Qc := fun A => va_Qv Post (atX dC dI q cI cT A) A) (own := RX3) (by decide) rfl (fun w h => List.mem_cons_of_mem _ (List.mem_append_right _ h)) rfl (Nat.le_of_ble_eq_true rfl) (fun p e s m below meth c A ls X hr hlocks hP hD hS hl => ?_)
  have hx := X.1
  have hb := X.2.1
  have hl : lv_has ls 2 [(0, .ref (q 43)), (1, .int a0)] := hl
  have lk36 := X.2.2.2.2.1 (.fieldLink RX3 36 "BreathOnLoan$Parser" "faultNumber" "I") (inX 302 rfl)
  have lk60 := X.2.2.2.2.1 (.fieldLink RX3 60 "BreathOnLoan$Parser" "token" "I") (inX 228 rfl)
  have lk141 := X.2.2.2.2.1 (.fieldLink RX3 141 "BreathOnLoan$Parser" "place" "I") (inX 221 rfl)
  have lk9 := X.2.2.2.2.1 (.fieldLink RX3 9 "BreathOnLoan$Parser" "faultPlace" "I") (inX 169 rfl)
  dsimp only [VC_X3_fail_43] at h
  refine lv_aload_n hx hb (dk DX3_fail 0 rfl) rfl (lv_at hl 0 rfl) ?_
  refine gX_43 X hP 1 (by decide) rfl lk36 (dk DX3_fail 1 rfl) ?_
  refine lv_if_ne (tgt := 20) hx hb (dk DX3_fail 2 rfl) (by decide) (fun hc => ?_) (fun hc => ?_)
  · have h := h.1 hc
    refine lv_aload_n hx hb (dk DX3_fail 10 rfl) rfl (lv_at hl 0 rfl) ?_
    refine lv_bipush (v := 17) hx hb (dk DX3_fail 11 rfl) (by decide) ?_
    refine pX_43_5 X hP hD hS lk60 (dk DX3_fail 12 rfl) (fun S1 eS1 H locs hP hD hS => ?_)
    have h := h S1 eS1
    exact W.vret hx hb hr (fun t ht hW => ⟨⟨_, rfl, h, by rw [ht]; exact hP, va_K.moved hW.alike X.2.2.2.2.2.2.1, hD⟩, hS.F ht⟩) hS.2.2 (dk DX3_fail 13 rfl)
  · have h := h.2 hc
    refine lv_aload_n hx hb (dk DX3_fail 3 rfl) rfl (lv_at hl 0 rfl) ?_
    refine lv_iload_n hx hb (dk DX3_fail 4 rfl) rfl (lv_at hl 1 rfl) ?_
    refine pX_43_1 X hP hD hS lk36 (dk DX3_fail 5 rfl) (fun S2 eS2 H locs hP hD hS => ?_)
    have h := h S2 eS2
    refine lv_aload_n hx hb (dk DX3_fail 6 rfl) rfl (lv_at hl 0 rfl) ?_
    refine lv_aload_n hx hb (dk DX3_fail 7 rfl) rfl (lv_at hl 0 rfl) ?_
    refine gX_43 X hP 6 (by decide) rfl lk141 (dk DX3_fail 8 rfl) ?_
    refine lv_topi (fun v3 ev3 => ?_)
    have h := h v3 ev3
    refine pX_43_2 X hP hD hS lk9 (dk DX3_fail 9 rfl) (fun S4 eS4 H locs hP hD hS => ?_)
    have h := h S4 eS4
    refine lv_aload_n hx hb (dk DX3_fail 10 rfl) rfl (lv_at hl 0 rfl) ?_
    refine lv_bipush (v := 17) hx hb (dk DX3_fail 11 rfl) (by decide) ?_
    refine pX_43_5 X hP hD hS lk60 (dk DX3_fail 12 rfl) (fun S5 eS5 H locs hP hD hS => ?_)
    have h := h S5 eS5
    exact W.vret hx hb hr (fun t ht hW => ⟨⟨_, rfl, h, by rw [ht]; exact hP, va_K.moved hW.alike X.2.2.2.2.2.2.1, hD⟩, hS.F ht⟩) hS.2.2 (dk DX3_fail 13 rfl)

def ww_X3_emit_43 : List Cond := .code yX3_emit cX3_emit 3 (some .int) :: (WdX ++ WsX)
theorem q_X3_emit_43 : yX3_emit.cls = RX3 ∧ yX3_emit.cls ≠ "java/lang/invoke/MethodHandle" ∧ yX3_emit.cls ≠ "java/lang/invoke/VarHandle" ∧ (parseMethodDescriptor yX3_emit.desc).map (fun d => d.parameters.length) = some 2 := by decide +kernel
def VC_X3_emit_43 (Post : Int32 → XS → Prop) (a0 : Int32) (a1 : Int32) (S : XS) : Prop := ((300 ≤ (S.1 1387) → Post ((S.1 1387) - 1) S) ∧ (¬ 300 ≤ (S.1 1387) → ∀ v1 : Int32, v1 = a0 ||| (a1 <<< (7 &&& 31)) → vp_in (S.1 1387) 300 ∧ ∀ S2 : XS, S2 = xF S 44 (upd (S.2.1 44) (S.1 1387).toNatClampNeg v1) → ∀ v3 : Int32, v3 = (S2.1 1387) + 1 → ∀ S4 : XS, S4 = xI S2 1387 v3 → Post ((S4.1 1387) - 1) S4))
set_option maxHeartbeats 4000000 in
set_option maxRecDepth 100000 in
theorem m_X3_emit_43 {l : Launch} {dC : Nat → ClassId} {dI : Nat → Nat → Nat} {q : Nat → Nat} {cI cT : ClassId} {en : Nat → Nat} {sz : Nat} {Post : Int32 → XS → Prop} (a0 : Int32) (a1 : Int32) (S : XS) (h : VC_X3_emit_43 Post a0 a1 S) : Met l yX3_emit ww_X3_emit_43 ({ frames := 0, cells := 0, slots := 0, locals := 0 } : Room) (va_Pc [.ref (q 43), .int a0, .int a1] (preX dC dI q cI cT en S sz)) (va_Qi Post (atX dC dI q cI cT (va_A (wX q cI cT S) sz)) (va_A (wX q cI cT S) sz)) 0 0 (va_A (wX q cI cT S) sz) := by
  refine oX (cc := cX3_emit) (maxL := 3) (ret := (some .int)) (Qc := fun A => va_Qi Post (atX dC dI q cI cT A) A) (own := RX3) (by decide) rfl (fun w h => List.mem_cons_of_mem _ (List.mem_append_right _ h)) rfl (Nat.le_of_ble_eq_true rfl) (fun p e s m below meth c A ls X hr hlocks hP hD hS hl => ?_)
  have hx := X.1
  have hb := X.2.1
  have hl : lv_has ls 3 [(0, .ref (q 43)), (1, .int a0), (2, .int a1)] := hl
  have lk48 := X.2.2.2.2.1 (.fieldLink RX3 48 "BreathOnLoan$Parser" "size" "I") (inX 323 rfl)
  have lk15 := X.2.2.2.2.1 (.fieldLink RX3 15 "BreathOnLoan$Parser" "code" "[I") (inX 170 rfl)
  dsimp only [VC_X3_emit_43] at h
  refine lv_aload_n hx hb (dk DX3_emit 0 rfl) rfl (lv_at hl 0 rfl) ?_
  refine gX_43 X hP 11 (by decide) rfl lk48 (dk DX3_emit 1 rfl) ?_
  refine lv_aload_n hx hb (dk DX3_emit 2 rfl) rfl (lv_at hl 0 rfl) ?_
  refine gX_43 X hP 12 (by decide) rfl lk15 (dk DX3_emit 3 rfl) ?_
  refine alX_44 X hP (dk DX3_emit 4 rfl) ?_
  refine lv_icmp_ge (tgt := 37) hx hb (dk DX3_emit 5 rfl) (by decide) (fun hc => ?_) (fun hc => ?_)
  · have h := h.1 hc
    refine lv_aload_n hx hb (dk DX3_emit 22 rfl) rfl (lv_at hl 0 rfl) ?_
    refine gX_43 X hP 11 (by decide) rfl lk48 (dk DX3_emit 23 rfl) ?_
    refine lv_iconst (v := 1) hx hb (dk DX3_emit 24 rfl) (by decide) ?_
    refine lv_isub hx hb (dk DX3_emit 25 rfl) ?_
    exact W.iret (v := (S.1 1387) - 1) hx hb hr (fun t ht hW => ⟨⟨_, _, rfl, h, by rw [ht]; exact hP, va_K.moved hW.alike X.2.2.2.2.2.2.1, hD⟩, hS.F ht⟩) hS.2.2 (dk DX3_emit 26 rfl)
  · have h := h.2 hc
    refine lv_aload_n hx hb (dk DX3_emit 6 rfl) rfl (lv_at hl 0 rfl) ?_
    refine gX_43 X hP 12 (by decide) rfl lk15 (dk DX3_emit 7 rfl) ?_
    refine lv_aload_n hx hb (dk DX3_emit 8 rfl) rfl (lv_at hl 0 rfl) ?_
    refine gX_43 X hP 11 (by decide) rfl lk48 (dk DX3_emit 9 rfl) ?_
    refine lv_iload_n hx hb (dk DX3_emit 10 rfl) rfl (lv_at hl 1 rfl) ?_
    refine lv_iload_n hx hb (dk DX3_emit 11 rfl) rfl (lv_at hl 2 rfl) ?_
    refine lv_bipush (v := 7) hx hb (dk DX3_emit 12 rfl) (by decide) ?_
    refine lv_ishl hx hb (dk DX3_emit 13 rfl) ?_
    refine lv_ior hx hb (dk DX3_emit 14 rfl) ?_
    refine lv_topi (fun v1 ev1 => ?_)
    have h := h v1 ev1
    obtain ⟨hin, h⟩ := h
    refine stX_44 X hP hD hS hin (dk DX3_emit 15 rfl) (fun S2 eS2 H locs hP hD hS => ?_)
    have h := h S2 eS2
    refine lv_aload_n hx hb (dk DX3_emit 16 rfl) rfl (lv_at hl 0 rfl) ?_
    refine lv_dup hx hb (dk DX3_emit 17 rfl) rfl ?_
    refine gX_43 X hP 11 (by decide) rfl lk48 (dk DX3_emit 18 rfl) ?_
    refine lv_iconst (v := 1) hx hb (dk DX3_emit 19 rfl) (by decide) ?_
    refine lv_iadd hx hb (dk DX3_emit 20 rfl) ?_
    refine lv_topi (fun v3 ev3 => ?_)
    have h := h v3 ev3
    refine pX_43_11 X hP hD hS lk48 (dk DX3_emit 21 rfl) (fun S4 eS4 H locs hP hD hS => ?_)
    have h := h S4 eS4
    refine lv_aload_n hx hb (dk DX3_emit 22 rfl) rfl (lv_at hl 0 rfl) ?_
    refine gX_43 X hP 11 (by decide) rfl lk48 (dk DX3_emit 23 rfl) ?_
    refine lv_iconst (v := 1) hx hb (dk DX3_emit 24 rfl) (by decide) ?_
    refine lv_isub hx hb (dk DX3_emit 25 rfl) ?_
    exact W.iret (v := (S4.1 1387) - 1) hx hb hr (fun t ht hW => ⟨⟨_, _, rfl, h, by rw [ht]; exact hP, va_K.moved hW.alike X.2.2.2.2.2.2.1, hD⟩, hS.F ht⟩) hS.2.2 (dk DX3_emit 26 rfl)

def ww_X3_aim_43 : List Cond := .code yX3_aim cX3_aim 2 none :: (WdX ++ WsX)
theorem q_X3_aim_43 : yX3_aim.cls = RX3 ∧ yX3_aim.cls ≠ "java/lang/invoke/MethodHandle" ∧ yX3_aim.cls ≠ "java/lang/invoke/VarHandle" ∧ (parseMethodDescriptor yX3_aim.desc).map (fun d => d.parameters.length) = some 1 := by decide +kernel
def VC_X3_aim_43 (Post : XS → Prop) (a0 : Int32) (S : XS) : Prop := ((a0 < 0 → Post S) ∧ (¬ a0 < 0 → (((S.1 1387) ≤ a0 → Post S) ∧ (¬ (S.1 1387) ≤ a0 → vp_in a0 300 ∧ ∀ v1 : Int32, v1 = ((S.2.1 44) a0.toNatClampNeg) ||| ((S.1 1387) <<< (7 &&& 31)) → vp_in a0 300 ∧ ∀ S2 : XS, S2 = xF S 44 (upd (S.2.1 44) a0.toNatClampNeg v1) → Post S2))))
set_option maxHeartbeats 4000000 in
set_option maxRecDepth 100000 in
theorem m_X3_aim_43 {l : Launch} {dC : Nat → ClassId} {dI : Nat → Nat → Nat} {q : Nat → Nat} {cI cT : ClassId} {en : Nat → Nat} {sz : Nat} {Post : XS → Prop} (a0 : Int32) (S : XS) (h : VC_X3_aim_43 Post a0 S) : Met l yX3_aim ww_X3_aim_43 ({ frames := 0, cells := 0, slots := 0, locals := 0 } : Room) (va_Pc [.ref (q 43), .int a0] (preX dC dI q cI cT en S sz)) (va_Qv Post (atX dC dI q cI cT (va_A (wX q cI cT S) sz)) (va_A (wX q cI cT S) sz)) 0 0 (va_A (wX q cI cT S) sz) := by
  refine oX (cc := cX3_aim) (maxL := 2) (ret := none) (Qc := fun A => va_Qv Post (atX dC dI q cI cT A) A) (own := RX3) (by decide) rfl (fun w h => List.mem_cons_of_mem _ (List.mem_append_right _ h)) rfl (Nat.le_of_ble_eq_true rfl) (fun p e s m below meth c A ls X hr hlocks hP hD hS hl => ?_)
  have hx := X.1
  have hb := X.2.1
  have hl : lv_has ls 2 [(0, .ref (q 43)), (1, .int a0)] := hl
  have lk48 := X.2.2.2.2.1 (.fieldLink RX3 48 "BreathOnLoan$Parser" "size" "I") (inX 323 rfl)
  have lk15 := X.2.2.2.2.1 (.fieldLink RX3 15 "BreathOnLoan$Parser" "code" "[I") (inX 170 rfl)
  dsimp only [VC_X3_aim_43] at h
  refine lv_iload_n hx hb (dk DX3_aim 0 rfl) rfl (lv_at hl 1 rfl) ?_
  refine lv_if_lt (tgt := 28) hx hb (dk DX3_aim 1 rfl) (by decide) (fun hc => ?_) (fun hc => ?_)
  · have h := h.1 hc
    exact W.vret hx hb hr (fun t ht hW => ⟨⟨_, rfl, h, by rw [ht]; exact hP, va_K.moved hW.alike X.2.2.2.2.2.2.1, hD⟩, hS.F ht⟩) hS.2.2 (dk DX3_aim 17 rfl)
  · have h := h.2 hc
    refine lv_iload_n hx hb (dk DX3_aim 2 rfl) rfl (lv_at hl 1 rfl) ?_
    refine lv_aload_n hx hb (dk DX3_aim 3 rfl) rfl (lv_at hl 0 rfl) ?_
    refine gX_43 X hP 11 (by decide) rfl lk48 (dk DX3_aim 4 rfl) ?_
    refine lv_icmp_ge (tgt := 28) hx hb (dk DX3_aim 5 rfl) (by decide) (fun hc => ?_) (fun hc => ?_)
    · have h := h.1 hc
      exact W.vret hx hb hr (fun t ht hW => ⟨⟨_, rfl, h, by rw [ht]; exact hP, va_K.moved hW.alike X.2.2.2.2.2.2.1, hD⟩, hS.F ht⟩) hS.2.2 (dk DX3_aim 17 rfl)
    · have h := h.2 hc
      refine lv_aload_n hx hb (dk DX3_aim 6 rfl) rfl (lv_at hl 0 rfl) ?_
      refine gX_43 X hP 12 (by decide) rfl lk15 (dk DX3_aim 7 rfl) ?_
      refine lv_iload_n hx hb (dk DX3_aim 8 rfl) rfl (lv_at hl 1 rfl) ?_
      refine lv_dup2_11 hx hb (dk DX3_aim 9 rfl) rfl rfl ?_
      obtain ⟨hin, h⟩ := h
      refine ldX_44 X hP hin (dk DX3_aim 10 rfl) ?_
      refine lv_aload_n hx hb (dk DX3_aim 11 rfl) rfl (lv_at hl 0 rfl) ?_
      refine gX_43 X hP 11 (by decide) rfl lk48 (dk DX3_aim 12 rfl) ?_
      refine lv_bipush (v := 7) hx hb (dk DX3_aim 13 rfl) (by decide) ?_
      refine lv_ishl hx hb (dk DX3_aim 14 rfl) ?_
      refine lv_ior hx hb (dk DX3_aim 15 rfl) ?_
      refine lv_topi (fun v1 ev1 => ?_)
      have h := h v1 ev1
      obtain ⟨hin, h⟩ := h
      refine stX_44 X hP hD hS hin (dk DX3_aim 16 rfl) (fun S2 eS2 H locs hP hD hS => ?_)
      have h := h S2 eS2
      exact W.vret hx hb hr (fun t ht hW => ⟨⟨_, rfl, h, by rw [ht]; exact hP, va_K.moved hW.alike X.2.2.2.2.2.2.1, hD⟩, hS.F ht⟩) hS.2.2 (dk DX3_aim 17 rfl)

def ww_X3_isDigit : List Cond := .code yX3_isDigit cX3_isDigit 1 (some .boolean) :: (WdX ++ WsX)
theorem q_X3_isDigit : yX3_isDigit.cls ≠ "java/lang/invoke/MethodHandle" ∧ yX3_isDigit.cls ≠ "java/lang/invoke/VarHandle" ∧ (parseMethodDescriptor yX3_isDigit.desc).map (fun d => d.parameters.length) = some 1 := by decide +kernel
def VC_X3_isDigit (Post : Int32 → XS → Prop) (a0 : Int32) (S : XS) : Prop := ((a0 < 48 → Post 0 S) ∧ (¬ a0 < 48 → ((57 < a0 → Post 0 S) ∧ (¬ 57 < a0 → Post 1 S))))
set_option maxHeartbeats 4000000 in
set_option maxRecDepth 100000 in
theorem m_X3_isDigit {l : Launch} {dC : Nat → ClassId} {dI : Nat → Nat → Nat} {q : Nat → Nat} {cI cT : ClassId} {en : Nat → Nat} {sz : Nat} {Post : Int32 → XS → Prop} (a0 : Int32) (S : XS) (h : VC_X3_isDigit Post a0 S) : Met l yX3_isDigit ww_X3_isDigit ({ frames := 0, cells := 0, slots := 0, locals := 0 } : Room) (va_Pc [.int a0] (preX dC dI q cI cT en S sz)) (va_Qi Post (atX dC dI q cI cT (va_A (wX q cI cT S) sz)) (va_A (wX q cI cT S) sz)) 0 0 (va_A (wX q cI cT S) sz) := by
  refine oX (cc := cX3_isDigit) (maxL := 1) (ret := (some .boolean)) (Qc := fun A => va_Qi Post (atX dC dI q cI cT A) A) (own := RX3) (by decide) rfl (fun w h => List.mem_cons_of_mem _ (List.mem_append_right _ h)) rfl (Nat.le_of_ble_eq_true rfl) (fun p e s m below meth c A ls X hr hlocks hP hD hS hl => ?_)
  have hx := X.1
  have hb := X.2.1
  have hl : lv_has ls 1 [(0, .int a0)] := hl
  dsimp only [VC_X3_isDigit] at h
  refine lv_iload_n hx hb (dk DX3_isDigit 0 rfl) rfl (lv_at hl 0 rfl) ?_
  refine lv_bipush (v := 48) hx hb (dk DX3_isDigit 1 rfl) (by decide) ?_
  refine lv_icmp_lt (tgt := 16) hx hb (dk DX3_isDigit 2 rfl) (by decide) (fun hc => ?_) (fun hc => ?_)
  · have h := h.1 hc
    refine lv_iconst (v := 0) hx hb (dk DX3_isDigit 8 rfl) (by decide) ?_
    exact W.zret (v := 0) hx hb hr (by decide) (fun t ht hW => ⟨⟨_, _, rfl, h, by rw [ht]; exact hP, va_K.moved hW.alike X.2.2.2.2.2.2.1, hD⟩, hS.F ht⟩) hS.2.2 (dk DX3_isDigit 9 rfl)
  · have h := h.2 hc
    refine lv_iload_n hx hb (dk DX3_isDigit 3 rfl) rfl (lv_at hl 0 rfl) ?_
    refine lv_bipush (v := 57) hx hb (dk DX3_isDigit 4 rfl) (by decide) ?_
    refine lv_icmp_gt (tgt := 16) hx hb (dk DX3_isDigit 5 rfl) (by decide) (fun hc => ?_) (fun hc => ?_)
    · have h := h.1 hc
      refine lv_iconst (v := 0) hx hb (dk DX3_isDigit 8 rfl) (by decide) ?_
      exact W.zret (v := 0) hx hb hr (by decide) (fun t ht hW => ⟨⟨_, _, rfl, h, by rw [ht]; exact hP, va_K.moved hW.alike X.2.2.2.2.2.2.1, hD⟩, hS.F ht⟩) hS.2.2 (dk DX3_isDigit 9 rfl)
    · have h := h.2 hc
      refine lv_iconst (v := 1) hx hb (dk DX3_isDigit 6 rfl) (by decide) ?_
      refine lv_goto (tgt := 17) hx hb (dk DX3_isDigit 7 rfl) (by decide) ?_
      exact W.zret (v := 1) hx hb hr (by decide) (fun t ht hW => ⟨⟨_, _, rfl, h, by rw [ht]; exact hP, va_K.moved hW.alike X.2.2.2.2.2.2.1, hD⟩, hS.F ht⟩) hS.2.2 (dk DX3_isDigit 9 rfl)

def ww_X3_readNumber_43 : List Cond := .code yX3_readNumber cX3_readNumber 1 none :: (WdX ++ WsX)
theorem q_X3_readNumber_43 : yX3_readNumber.cls = RX3 ∧ yX3_readNumber.cls ≠ "java/lang/invoke/MethodHandle" ∧ yX3_readNumber.cls ≠ "java/lang/invoke/VarHandle" ∧ (parseMethodDescriptor yX3_readNumber.desc).map (fun d => d.parameters.length) = some 0 := by decide +kernel
abbrev Hd_X3_readNumber_43 : Type := Unit
def B_X3_readNumber_43 (Post : XS → Prop) (K : Hd_X3_readNumber_43 → XS → Prop) : Hd_X3_readNumber_43 → XS → Prop
  | (), S => (((S.1 1313) ≤ (S.1 1380) → Post S) ∧ (¬ (S.1 1313) ≤ (S.1 1380) → vp_in (S.1 1380) 300 ∧ VC_X3_isDigit (fun r4 S3 => ((r4 = 0 → Post S3) ∧ (¬ r4 = 0 → vp_in (S3.1 1380) 300 ∧ ∀ v5 : Int32, v5 = (if (((10 * (S3.1 1383)) + ((S3.2.1 42) (S3.1 1380).toNatClampNeg)) - 48) < 10000 then (((10 * (S3.1 1383)) + ((S3.2.1 42) (S3.1 1380).toNatClampNeg)) - 48) else 10000) → ∀ S6 : XS, S6 = xI S3 1383 v5 → ∀ v7 : Int32, v7 = (S6.1 1380) + 1 → ∀ S8 : XS, S8 = xI S6 1380 v7 → K () S8))) ((S.2.1 42) (S.1 1380).toNatClampNeg) S))
def VC_X3_readNumber_43 (Post : XS → Prop) (S : XS) : Prop := ∀ K : Hd_X3_readNumber_43 → XS → Prop, (∀ h S, B_X3_readNumber_43 Post K h S → K h S) → ∀ S1 : XS, S1 = xI S 1381 15 → ∀ S2 : XS, S2 = xI S1 1383 0 → K () S2
set_option maxHeartbeats 4000000 in
set_option maxRecDepth 100000 in
theorem h_X3_readNumber_43_0 {p : Program} {l : Launch} {e : Env} {s : State} {m : MethodId} {below : List Frame} {meth : Method} {c : Code} {dC : Nat → ClassId} {dI : Nat → Nat → Nat} {q : Nat → Nat} {cI cT : ClassId} {en : Nat → Nat} {A : Nat → Prop} {args : Array Value} {Post : XS → Prop} {K : Hd_X3_readNumber_43 → XS → Prop} (X : XX p s m args c cX3_readNumber 1 ww_X3_readNumber_43 RX3 dC dI cI cT en A) (hr : meth.sig.returnType = none) (hlocks : meth.locks = false) (hK0 : ∀ (S : XS), K () S → ∀ (H : Heap) (locs : List Loc), va_P (dC, dI) vwCl (wX q cI cT S) H → va_D A (wX q cI cT S) → va_S A s.heap H locs → ∀ ls : Array Slot, lv_has ls 1 [(0, .ref (q 43))] → W p l e (headSpec ww_X3_readNumber_43 ({ frames := 1, cells := 0, slots := 0, locals := 40 } : Room)).room s m args below meth c H locs 0 0 (MQ below (va_Qv Post (atX dC dI q cI cT A) A) args s 0 0 A) (F0 m 11 ls [])) (S : XS) (h : B_X3_readNumber_43 Post K () S) : ∀ (H : Heap) (locs : List Loc), va_P (dC, dI) vwCl (wX q cI cT S) H → va_D A (wX q cI cT S) → va_S A s.heap H locs → ∀ ls : Array Slot, lv_has ls 1 [(0, .ref (q 43))] → W p l e (headSpec ww_X3_readNumber_43 ({ frames := 1, cells := 0, slots := 0, locals := 40 } : Room)).room s m args below meth c H locs 0 0 (MQ below (va_Qv Post (atX dC dI q cI cT A) A) args s 0 0 A) (F0 m 11 ls []) := by
  have hx := X.1
  have hb := X.2.1
  intro H locs hP hD hS ls hl
  have lk60 := X.2.2.2.2.1 (.fieldLink RX3 60 "BreathOnLoan$Parser" "token" "I") (inX 228 rfl)
  have lk138 := X.2.2.2.2.1 (.fieldLink RX3 138 "BreathOnLoan$Parser" "value" "I") (inX 241 rfl)
  have lk39 := X.2.2.2.2.1 (.fieldLink RX3 39 "BreathOnLoan$Parser" "next" "I") (inX 220 rfl)
  have lk28 := X.2.2.2.2.1 (.fieldLink RX3 28 "BreathOnLoan$Parser" "tape" "LBreathOnLoan$Tape;") (inX 174 rfl)
  have lk144 := X.2.2.2.2.1 (.fieldLink RX3 144 "BreathOnLoan$Tape" "length" "I") (inX 227 rfl)
  have lk149 := X.2.2.2.2.1 (.fieldLink RX3 149 "BreathOnLoan$Tape" "bytes" "[I") (inX 222 rfl)
  dsimp only [B_X3_readNumber_43] at h
  refine lv_aload_n hx hb (dk DX3_readNumber 6 rfl) rfl (lv_at hl 0 rfl) ?_
  refine gX_43 X hP 4 (by decide) rfl lk39 (dk DX3_readNumber 7 rfl) ?_
  refine lv_aload_n hx hb (dk DX3_readNumber 8 rfl) rfl (lv_at hl 0 rfl) ?_
  refine gX_43 X hP 3 (by decide) rfl lk28 (dk DX3_readNumber 9 rfl) ?_
  refine gX_41 X hP 1 (by decide) rfl lk144 (dk DX3_readNumber 10 rfl) ?_
  refine lv_icmp_ge (tgt := 89) hx hb (dk DX3_readNumber 11 rfl) (by decide) (fun hc => ?_) (fun hc => ?_)
  · have h := h.1 hc
    exact W.vret hx hb hr (fun t ht hW => ⟨⟨_, rfl, h, by rw [ht]; exact hP, va_K.moved hW.alike X.2.2.2.2.2.2.1, hD⟩, hS.F ht⟩) hS.2.2 (dk DX3_readNumber 44 rfl)
  · have h := h.2 hc
    refine lv_aload_n hx hb (dk DX3_readNumber 12 rfl) rfl (lv_at hl 0 rfl) ?_
    refine gX_43 X hP 3 (by decide) rfl lk28 (dk DX3_readNumber 13 rfl) ?_
    refine gX_41 X hP 0 (by decide) rfl lk149 (dk DX3_readNumber 14 rfl) ?_
    refine lv_aload_n hx hb (dk DX3_readNumber 15 rfl) rfl (lv_at hl 0 rfl) ?_
    refine gX_43 X hP 4 (by decide) rfl lk39 (dk DX3_readNumber 16 rfl) ?_
    obtain ⟨hin, h⟩ := h
    refine ldX_42 X hP hin (dk DX3_readNumber 17 rfl) ?_
    refine cXsi (As := [.int ((S.2.1 42) (S.1 1380).toNatClampNeg)]) (rest := []) X (m_X3_isDigit (l := l) (dC := dC) (dI := dI) (q := q) (cI := cI) (cT := cT) (en := en) (sz := _) ((S.2.1 42) (S.1 1380).toNatClampNeg) S h) (va_cwS 1 X.2.2.2.2.1 (gxS 243 244 231 239 rfl rfl rfl rfl) rfl rfl rfl q_X3_isDigit ⟨Nat.le_of_ble_eq_true rfl, Nat.le_of_ble_eq_true rfl⟩) hP hD hS rfl hl.1 rfl (Nat.le_of_ble_eq_true rfl) (dk DX3_readNumber 18 rfl) (fun r4 S3 H locs h hP hD hS => ?_)
    refine lv_if_eq (tgt := 89) hx hb (dk DX3_readNumber 19 rfl) (by decide) (fun hc => ?_) (fun hc => ?_)
    · have h := h.1 hc
      exact W.vret hx hb hr (fun t ht hW => ⟨⟨_, rfl, h, by rw [ht]; exact hP, va_K.moved hW.alike X.2.2.2.2.2.2.1, hD⟩, hS.F ht⟩) hS.2.2 (dk DX3_readNumber 44 rfl)
    · have h := h.2 hc
      refine lv_aload_n hx hb (dk DX3_readNumber 20 rfl) rfl (lv_at hl 0 rfl) ?_
      refine lv_sipush (v := 10000) hx hb (dk DX3_readNumber 21 rfl) (by decide) ?_
      refine lv_bipush (v := 10) hx hb (dk DX3_readNumber 22 rfl) (by decide) ?_
      refine lv_aload_n hx hb (dk DX3_readNumber 23 rfl) rfl (lv_at hl 0 rfl) ?_
      refine gX_43 X hP 7 (by decide) rfl lk138 (dk DX3_readNumber 24 rfl) ?_
      refine lv_imul hx hb (dk DX3_readNumber 25 rfl) ?_
      refine lv_aload_n hx hb (dk DX3_readNumber 26 rfl) rfl (lv_at hl 0 rfl) ?_
      refine gX_43 X hP 3 (by decide) rfl lk28 (dk DX3_readNumber 27 rfl) ?_
      refine gX_41 X hP 0 (by decide) rfl lk149 (dk DX3_readNumber 28 rfl) ?_
      refine lv_aload_n hx hb (dk DX3_readNumber 29 rfl) rfl (lv_at hl 0 rfl) ?_
      refine gX_43 X hP 4 (by decide) rfl lk39 (dk DX3_readNumber 30 rfl) ?_
      obtain ⟨hin, h⟩ := h
      refine ldX_42 X hP hin (dk DX3_readNumber 31 rfl) ?_
      refine lv_iadd hx hb (dk DX3_readNumber 32 rfl) ?_
      refine lv_bipush (v := 48) hx hb (dk DX3_readNumber 33 rfl) (by decide) ?_
      refine lv_isub hx hb (dk DX3_readNumber 34 rfl) ?_
      refine va_mmin hx hb (X.2.2.1.trans hl.1.symm) X.2.2.2.1 (X.2.2.2.2.1 (.methodLink RX3 183 Lib.Math.min.name) (inX 242 rfl)) (X.2.2.2.2.1 (.static Lib.Math.min.name) (inX 20 rfl)) (X.2.2.2.2.1 (.initialized "java/lang/Math") (inX 21 rfl)) (X.2.2.2.2.1 (.code Lib.Math.min.name Lib.Math.min.code 2 (some .int)) (inX 22 rfl)) (Nat.le_of_ble_eq_true rfl) (Nat.le_of_ble_eq_true rfl) (Nat.zero_le _) (Nat.zero_le _) (dk DX3_readNumber 35 rfl) ?_
      refine lv_topi (fun v5 ev5 => ?_)
      have h := h v5 ev5
      refine pX_43_7 X hP hD hS lk138 (dk DX3_readNumber 36 rfl) (fun S6 eS6 H locs hP hD hS => ?_)
      have h := h S6 eS6
      refine lv_aload_n hx hb (dk DX3_readNumber 37 rfl) rfl (lv_at hl 0 rfl) ?_
      refine lv_dup hx hb (dk DX3_readNumber 38 rfl) rfl ?_
      refine gX_43 X hP 4 (by decide) rfl lk39 (dk DX3_readNumber 39 rfl) ?_
      refine lv_iconst (v := 1) hx hb (dk DX3_readNumber 40 rfl) (by decide) ?_
      refine lv_iadd hx hb (dk DX3_readNumber 41 rfl) ?_
      refine lv_topi (fun v7 ev7 => ?_)
      have h := h v7 ev7
      refine pX_43_4 X hP hD hS lk39 (dk DX3_readNumber 42 rfl) (fun S8 eS8 H locs hP hD hS => ?_)
      have h := h S8 eS8
      refine lv_goto (tgt := 11) hx hb (dk DX3_readNumber 43 rfl) (by decide) ?_
      exact hK0 S8 h _ _ hP hD hS ls (lv_sub hl [0] rfl)
set_option maxHeartbeats 4000000 in
set_option maxRecDepth 100000 in
theorem m_X3_readNumber_43 {l : Launch} {dC : Nat → ClassId} {dI : Nat → Nat → Nat} {q : Nat → Nat} {cI cT : ClassId} {en : Nat → Nat} {sz : Nat} {Post : XS → Prop} (S : XS) (h : VC_X3_readNumber_43 Post S) : Met l yX3_readNumber ww_X3_readNumber_43 ({ frames := 1, cells := 0, slots := 0, locals := 40 } : Room) (va_Pc [.ref (q 43)] (preX dC dI q cI cT en S sz)) (va_Qv Post (atX dC dI q cI cT (va_A (wX q cI cT S) sz)) (va_A (wX q cI cT S) sz)) 0 0 (va_A (wX q cI cT S) sz) := by
  refine oX (cc := cX3_readNumber) (maxL := 1) (ret := none) (Qc := fun A => va_Qv Post (atX dC dI q cI cT A) A) (own := RX3) (by decide) rfl (fun w h => List.mem_cons_of_mem _ (List.mem_append_right _ h)) rfl (Nat.le_of_ble_eq_true rfl) (fun p e s m below meth c A ls X hr hlocks hP hD hS hl => ?_)
  have hx := X.1
  have hb := X.2.1
  have hl : lv_has ls 1 [(0, .ref (q 43))] := hl
  have lk60 := X.2.2.2.2.1 (.fieldLink RX3 60 "BreathOnLoan$Parser" "token" "I") (inX 228 rfl)
  have lk138 := X.2.2.2.2.1 (.fieldLink RX3 138 "BreathOnLoan$Parser" "value" "I") (inX 241 rfl)
  have lk39 := X.2.2.2.2.1 (.fieldLink RX3 39 "BreathOnLoan$Parser" "next" "I") (inX 220 rfl)
  have lk28 := X.2.2.2.2.1 (.fieldLink RX3 28 "BreathOnLoan$Parser" "tape" "LBreathOnLoan$Tape;") (inX 174 rfl)
  have lk144 := X.2.2.2.2.1 (.fieldLink RX3 144 "BreathOnLoan$Tape" "length" "I") (inX 227 rfl)
  have lk149 := X.2.2.2.2.1 (.fieldLink RX3 149 "BreathOnLoan$Tape" "bytes" "[I") (inX 222 rfl)
  generalize hargs : ([.ref (q 43)] : List Value).toArray = args at X ⊢
  have h := h (fun hd S => match hd with | () => ∀ (H : Heap) (locs : List Loc), va_P (dC, dI) vwCl (wX q cI cT S) H → va_D A (wX q cI cT S) → va_S A s.heap H locs → ∀ ls : Array Slot, lv_has ls 1 [(0, .ref (q 43))] → W p l e (headSpec ww_X3_readNumber_43 ({ frames := 1, cells := 0, slots := 0, locals := 40 } : Room)).room s m args below meth c H locs 0 0 (MQ below (va_Qv Post (atX dC dI q cI cT A) A) args s 0 0 A) (F0 m 11 ls [])) ?_
  · skip
    refine lv_aload_n hx hb (dk DX3_readNumber 0 rfl) rfl (lv_at hl 0 rfl) ?_
    refine lv_bipush (v := 15) hx hb (dk DX3_readNumber 1 rfl) (by decide) ?_
    refine pX_43_5 X hP hD hS lk60 (dk DX3_readNumber 2 rfl) (fun S1 eS1 H locs hP hD hS => ?_)
    have h := h S1 eS1
    refine lv_aload_n hx hb (dk DX3_readNumber 3 rfl) rfl (lv_at hl 0 rfl) ?_
    refine lv_iconst (v := 0) hx hb (dk DX3_readNumber 4 rfl) (by decide) ?_
    refine pX_43_7 X hP hD hS lk138 (dk DX3_readNumber 5 rfl) (fun S2 eS2 H locs hP hD hS => ?_)
    have h := h S2 eS2
    exact h _ _ hP hD hS ls (lv_sub hl [0] rfl)
  · rintro ⟨⟩ S hB
    exact h_X3_readNumber_43_0 X hr hlocks (hK0 := fun _ h => h)  S hB

def ww_X3_isLetter : List Cond := .code yX3_isLetter cX3_isLetter 1 (some .boolean) :: (WdX ++ WsX)
theorem q_X3_isLetter : yX3_isLetter.cls ≠ "java/lang/invoke/MethodHandle" ∧ yX3_isLetter.cls ≠ "java/lang/invoke/VarHandle" ∧ (parseMethodDescriptor yX3_isLetter.desc).map (fun d => d.parameters.length) = some 1 := by decide +kernel
abbrev Hd_X3_isLetter : Type := (Int32)
def B_X3_isLetter (Post : Int32 → XS → Prop) (K : Hd_X3_isLetter → XS → Prop) : Hd_X3_isLetter → XS → Prop
  | x0, S => ((x0 < 65 → Post 0 S) ∧ (¬ x0 < 65 → ((90 < x0 → Post 0 S) ∧ (¬ 90 < x0 → Post 1 S))))
def VC_X3_isLetter (Post : Int32 → XS → Prop) (a0 : Int32) (S : XS) : Prop := ∀ K : Hd_X3_isLetter → XS → Prop, (∀ h S, B_X3_isLetter Post K h S → K h S) → ((a0 < 97 → K a0 S) ∧ (¬ a0 < 97 → ((a0 ≤ 122 → Post 1 S) ∧ (¬ a0 ≤ 122 → K a0 S))))
set_option maxHeartbeats 4000000 in
set_option maxRecDepth 100000 in
theorem h_X3_isLetter_0 {p : Program} {l : Launch} {e : Env} {s : State} {m : MethodId} {below : List Frame} {meth : Method} {c : Code} {dC : Nat → ClassId} {dI : Nat → Nat → Nat} {q : Nat → Nat} {cI cT : ClassId} {en : Nat → Nat} {A : Nat → Prop} {args : Array Value} {Post : Int32 → XS → Prop} {K : Hd_X3_isLetter → XS → Prop} (X : XX p s m args c cX3_isLetter 1 ww_X3_isLetter RX3 dC dI cI cT en A) (hr : meth.sig.returnType = (some .boolean)) (hlocks : meth.locks = false) (hK0 : ∀ (x0 : Int32) (S : XS), K x0 S → ∀ (H : Heap) (locs : List Loc), va_P (dC, dI) vwCl (wX q cI cT S) H → va_D A (wX q cI cT S) → va_S A s.heap H locs → ∀ ls : Array Slot, lv_has ls 1 [(0, .int x0)] → W p l e (headSpec ww_X3_isLetter ({ frames := 0, cells := 0, slots := 0, locals := 0 } : Room)).room s m args below meth c H locs 0 0 (MQ below (va_Qi Post (atX dC dI q cI cT A) A) args s 0 0 A) (F0 m 12 ls [])) (x0 : Int32) (S : XS) (h : B_X3_isLetter Post K x0 S) : ∀ (H : Heap) (locs : List Loc), va_P (dC, dI) vwCl (wX q cI cT S) H → va_D A (wX q cI cT S) → va_S A s.heap H locs → ∀ ls : Array Slot, lv_has ls 1 [(0, .int x0)] → W p l e (headSpec ww_X3_isLetter ({ frames := 0, cells := 0, slots := 0, locals := 0 } : Room)).room s m args below meth c H locs 0 0 (MQ below (va_Qi Post (atX dC dI q cI cT A) A) args s 0 0 A) (F0 m 12 ls []) := by
  have hx := X.1
  have hb := X.2.1
  intro H locs hP hD hS ls hl
  dsimp only [B_X3_isLetter] at h
  refine lv_iload_n hx hb (dk DX3_isLetter 6 rfl) rfl (lv_at hl 0 rfl) ?_
  refine lv_bipush (v := 65) hx hb (dk DX3_isLetter 7 rfl) (by decide) ?_
  refine lv_icmp_lt (tgt := 28) hx hb (dk DX3_isLetter 8 rfl) (by decide) (fun hc => ?_) (fun hc => ?_)
  · have h := h.1 hc
    refine lv_iconst (v := 0) hx hb (dk DX3_isLetter 14 rfl) (by decide) ?_
    exact W.zret (v := 0) hx hb hr (by decide) (fun t ht hW => ⟨⟨_, _, rfl, h, by rw [ht]; exact hP, va_K.moved hW.alike X.2.2.2.2.2.2.1, hD⟩, hS.F ht⟩) hS.2.2 (dk DX3_isLetter 15 rfl)
  · have h := h.2 hc
    refine lv_iload_n hx hb (dk DX3_isLetter 9 rfl) rfl (lv_at hl 0 rfl) ?_
    refine lv_bipush (v := 90) hx hb (dk DX3_isLetter 10 rfl) (by decide) ?_
    refine lv_icmp_gt (tgt := 28) hx hb (dk DX3_isLetter 11 rfl) (by decide) (fun hc => ?_) (fun hc => ?_)
    · have h := h.1 hc
      refine lv_iconst (v := 0) hx hb (dk DX3_isLetter 14 rfl) (by decide) ?_
      exact W.zret (v := 0) hx hb hr (by decide) (fun t ht hW => ⟨⟨_, _, rfl, h, by rw [ht]; exact hP, va_K.moved hW.alike X.2.2.2.2.2.2.1, hD⟩, hS.F ht⟩) hS.2.2 (dk DX3_isLetter 15 rfl)
    · have h := h.2 hc
      refine lv_iconst (v := 1) hx hb (dk DX3_isLetter 12 rfl) (by decide) ?_
      refine lv_goto (tgt := 29) hx hb (dk DX3_isLetter 13 rfl) (by decide) ?_
      exact W.zret (v := 1) hx hb hr (by decide) (fun t ht hW => ⟨⟨_, _, rfl, h, by rw [ht]; exact hP, va_K.moved hW.alike X.2.2.2.2.2.2.1, hD⟩, hS.F ht⟩) hS.2.2 (dk DX3_isLetter 15 rfl)
set_option maxHeartbeats 4000000 in
set_option maxRecDepth 100000 in
theorem m_X3_isLetter {l : Launch} {dC : Nat → ClassId} {dI : Nat → Nat → Nat} {q : Nat → Nat} {cI cT : ClassId} {en : Nat → Nat} {sz : Nat} {Post : Int32 → XS → Prop} (a0 : Int32) (S : XS) (h : VC_X3_isLetter Post a0 S) : Met l yX3_isLetter ww_X3_isLetter ({ frames := 0, cells := 0, slots := 0, locals := 0 } : Room) (va_Pc [.int a0] (preX dC dI q cI cT en S sz)) (va_Qi Post (atX dC dI q cI cT (va_A (wX q cI cT S) sz)) (va_A (wX q cI cT S) sz)) 0 0 (va_A (wX q cI cT S) sz) := by
  refine oX (cc := cX3_isLetter) (maxL := 1) (ret := (some .boolean)) (Qc := fun A => va_Qi Post (atX dC dI q cI cT A) A) (own := RX3) (by decide) rfl (fun w h => List.mem_cons_of_mem _ (List.mem_append_right _ h)) rfl (Nat.le_of_ble_eq_true rfl) (fun p e s m below meth c A ls X hr hlocks hP hD hS hl => ?_)
  have hx := X.1
  have hb := X.2.1
  have hl : lv_has ls 1 [(0, .int a0)] := hl
  generalize hargs : ([.int a0] : List Value).toArray = args at X ⊢
  have h := h (fun hd S => match hd with | x0 => ∀ (H : Heap) (locs : List Loc), va_P (dC, dI) vwCl (wX q cI cT S) H → va_D A (wX q cI cT S) → va_S A s.heap H locs → ∀ ls : Array Slot, lv_has ls 1 [(0, .int x0)] → W p l e (headSpec ww_X3_isLetter ({ frames := 0, cells := 0, slots := 0, locals := 0 } : Room)).room s m args below meth c H locs 0 0 (MQ below (va_Qi Post (atX dC dI q cI cT A) A) args s 0 0 A) (F0 m 12 ls [])) ?_
  · skip
    refine lv_iload_n hx hb (dk DX3_isLetter 0 rfl) rfl (lv_at hl 0 rfl) ?_
    refine lv_bipush (v := 97) hx hb (dk DX3_isLetter 1 rfl) (by decide) ?_
    refine lv_icmp_lt (tgt := 12) hx hb (dk DX3_isLetter 2 rfl) (by decide) (fun hc => ?_) (fun hc => ?_)
    · have h := h.1 hc
      exact h _ _ hP hD hS ls (lv_sub hl [0] rfl)
    · have h := h.2 hc
      refine lv_iload_n hx hb (dk DX3_isLetter 3 rfl) rfl (lv_at hl 0 rfl) ?_
      refine lv_bipush (v := 122) hx hb (dk DX3_isLetter 4 rfl) (by decide) ?_
      refine lv_icmp_le (tgt := 24) hx hb (dk DX3_isLetter 5 rfl) (by decide) (fun hc => ?_) (fun hc => ?_)
      · have h := h.1 hc
        refine lv_iconst (v := 1) hx hb (dk DX3_isLetter 12 rfl) (by decide) ?_
        refine lv_goto (tgt := 29) hx hb (dk DX3_isLetter 13 rfl) (by decide) ?_
        exact W.zret (v := 1) hx hb hr (by decide) (fun t ht hW => ⟨⟨_, _, rfl, h, by rw [ht]; exact hP, va_K.moved hW.alike X.2.2.2.2.2.2.1, hD⟩, hS.F ht⟩) hS.2.2 (dk DX3_isLetter 15 rfl)
      · have h := h.2 hc
        exact h _ _ hP hD hS ls (lv_sub hl [0] rfl)
  · rintro x0 S hB
    exact h_X3_isLetter_0 X hr hlocks (hK0 := fun _ _ h => h) x0 S hB

def ww_J0_isLatin1_aae02_102 : List Cond := .code yJ0_isLatin1_aae02 cJ0_isLatin1_aae02 1 (some .boolean) :: (WdX ++ WsX)
theorem q_J0_isLatin1_aae02_102 : yJ0_isLatin1_aae02.cls = RJ0 ∧ yJ0_isLatin1_aae02.cls ≠ "java/lang/invoke/MethodHandle" ∧ yJ0_isLatin1_aae02.cls ≠ "java/lang/invoke/VarHandle" ∧ (parseMethodDescriptor yJ0_isLatin1_aae02.desc).map (fun d => d.parameters.length) = some 0 := by decide +kernel
def VC_J0_isLatin1_aae02_102 (Post : Int32 → XS → Prop) (S : XS) : Prop := (((1 : Int32) = 0 → Post 0 S) ∧ (¬ (1 : Int32) = 0 → ((¬ (0 : Int32) = 0 → Post 0 S) ∧ ((0 : Int32) = 0 → Post 1 S))))
set_option maxHeartbeats 4000000 in
set_option maxRecDepth 100000 in
theorem m_J0_isLatin1_aae02_102 {l : Launch} {dC : Nat → ClassId} {dI : Nat → Nat → Nat} {q : Nat → Nat} {cI cT : ClassId} {en : Nat → Nat} {sz : Nat} {Post : Int32 → XS → Prop} (S : XS) (h : VC_J0_isLatin1_aae02_102 Post S) : Met l yJ0_isLatin1_aae02 ww_J0_isLatin1_aae02_102 ({ frames := 0, cells := 0, slots := 0, locals := 0 } : Room) (va_Pc [.ref (en 2)] (preX dC dI q cI cT en S sz)) (va_Qi Post (atX dC dI q cI cT (va_A (wX q cI cT S) sz)) (va_A (wX q cI cT S) sz)) 0 0 (va_A (wX q cI cT S) sz) := by
  refine oX (cc := cJ0_isLatin1_aae02) (maxL := 1) (ret := (some .boolean)) (Qc := fun A => va_Qi Post (atX dC dI q cI cT A) A) (own := RJ0) (by decide) rfl (fun w h => List.mem_cons_of_mem _ (List.mem_append_right _ h)) rfl (Nat.le_of_ble_eq_true rfl) (fun p e s m below meth c A ls X hr hlocks hP hD hS hl => ?_)
  have hx := X.1
  have hb := X.2.1
  have hl : lv_has ls 1 [(0, .ref (en 2))] := hl
  have lk38 := X.2.2.2.2.1 (.fieldLink RJ0 38 "java/lang/String" "COMPACT_STRINGS" "Z") (inX 178 rfl)
  have lk15 := X.2.2.2.2.1 (.fieldLink RJ0 15 "java/lang/String" "coder" "B") (inX 179 rfl)
  dsimp only [VC_J0_isLatin1_aae02_102] at h
  refine gsE_c X hS lk38 (dk DJ0_isLatin1_aae02 0 rfl) ?_
  refine lv_if_eq (tgt := 17) hx hb (dk DJ0_isLatin1_aae02 1 rfl) (by decide) (fun hc => ?_) (fun hc => ?_)
  · have h := h.1 hc
    refine lv_iconst (v := 0) hx hb (dk DJ0_isLatin1_aae02 7 rfl) (by decide) ?_
    exact W.zret (v := 0) hx hb hr (by decide) (fun t ht hW => ⟨⟨_, _, rfl, h, by rw [ht]; exact hP, va_K.moved hW.alike X.2.2.2.2.2.2.1, hD⟩, hS.F ht⟩) hS.2.2 (dk DJ0_isLatin1_aae02 8 rfl)
  · have h := h.2 hc
    refine lv_aload_n hx hb (dk DJ0_isLatin1_aae02 2 rfl) rfl (lv_at hl 0 rfl) ?_
    refine gE_2_coder X hS lk15 (dk DJ0_isLatin1_aae02 3 rfl) ?_
    refine lv_if_ne (tgt := 17) hx hb (dk DJ0_isLatin1_aae02 4 rfl) (by decide) (fun hc => ?_) (fun hc => ?_)
    · have h := h.1 hc
      refine lv_iconst (v := 0) hx hb (dk DJ0_isLatin1_aae02 7 rfl) (by decide) ?_
      exact W.zret (v := 0) hx hb hr (by decide) (fun t ht hW => ⟨⟨_, _, rfl, h, by rw [ht]; exact hP, va_K.moved hW.alike X.2.2.2.2.2.2.1, hD⟩, hS.F ht⟩) hS.2.2 (dk DJ0_isLatin1_aae02 8 rfl)
    · have h := h.2 hc
      refine lv_iconst (v := 1) hx hb (dk DJ0_isLatin1_aae02 5 rfl) (by decide) ?_
      refine lv_goto (tgt := 18) hx hb (dk DJ0_isLatin1_aae02 6 rfl) (by decide) ?_
      exact W.zret (v := 1) hx hb hr (by decide) (fun t ht hW => ⟨⟨_, _, rfl, h, by rw [ht]; exact hP, va_K.moved hW.alike X.2.2.2.2.2.2.1, hD⟩, hS.F ht⟩) hS.2.2 (dk DJ0_isLatin1_aae02 8 rfl)

def ww_J0_coder_7d493_102 : List Cond := .code yJ0_coder_7d493 cJ0_coder_7d493 1 (some .byte) :: (WdX ++ WsX)
theorem q_J0_coder_7d493_102 : yJ0_coder_7d493.cls = RJ0 ∧ yJ0_coder_7d493.cls ≠ "java/lang/invoke/MethodHandle" ∧ yJ0_coder_7d493.cls ≠ "java/lang/invoke/VarHandle" ∧ (parseMethodDescriptor yJ0_coder_7d493.desc).map (fun d => d.parameters.length) = some 0 := by decide +kernel
def VC_J0_coder_7d493_102 (Post : Int32 → XS → Prop) (S : XS) : Prop := (((1 : Int32) = 0 → Post 1 S) ∧ (¬ (1 : Int32) = 0 → Post 0 S))
set_option maxHeartbeats 4000000 in
set_option maxRecDepth 100000 in
theorem m_J0_coder_7d493_102 {l : Launch} {dC : Nat → ClassId} {dI : Nat → Nat → Nat} {q : Nat → Nat} {cI cT : ClassId} {en : Nat → Nat} {sz : Nat} {Post : Int32 → XS → Prop} (S : XS) (h : VC_J0_coder_7d493_102 Post S) : Met l yJ0_coder_7d493 ww_J0_coder_7d493_102 ({ frames := 0, cells := 0, slots := 0, locals := 0 } : Room) (va_Pc [.ref (en 2)] (preX dC dI q cI cT en S sz)) (va_Qi Post (atX dC dI q cI cT (va_A (wX q cI cT S) sz)) (va_A (wX q cI cT S) sz)) 0 0 (va_A (wX q cI cT S) sz) := by
  refine oX (cc := cJ0_coder_7d493) (maxL := 1) (ret := (some .byte)) (Qc := fun A => va_Qi Post (atX dC dI q cI cT A) A) (own := RJ0) (by decide) rfl (fun w h => List.mem_cons_of_mem _ (List.mem_append_right _ h)) rfl (Nat.le_of_ble_eq_true rfl) (fun p e s m below meth c A ls X hr hlocks hP hD hS hl => ?_)
  have hx := X.1
  have hb := X.2.1
  have hl : lv_has ls 1 [(0, .ref (en 2))] := hl
  have lk38 := X.2.2.2.2.1 (.fieldLink RJ0 38 "java/lang/String" "COMPACT_STRINGS" "Z") (inX 178 rfl)
  have lk15 := X.2.2.2.2.1 (.fieldLink RJ0 15 "java/lang/String" "coder" "B") (inX 179 rfl)
  dsimp only [VC_J0_coder_7d493_102] at h
  refine gsE_c X hS lk38 (dk DJ0_coder_7d493 0 rfl) ?_
  refine lv_if_eq (tgt := 13) hx hb (dk DJ0_coder_7d493 1 rfl) (by decide) (fun hc => ?_) (fun hc => ?_)
  · have h := h.1 hc
    refine lv_iconst (v := 1) hx hb (dk DJ0_coder_7d493 5 rfl) (by decide) ?_
    exact W.zret (v := 1) hx hb hr (by decide) (fun t ht hW => ⟨⟨_, _, rfl, h, by rw [ht]; exact hP, va_K.moved hW.alike X.2.2.2.2.2.2.1, hD⟩, hS.F ht⟩) hS.2.2 (dk DJ0_coder_7d493 6 rfl)
  · have h := h.2 hc
    refine lv_aload_n hx hb (dk DJ0_coder_7d493 2 rfl) rfl (lv_at hl 0 rfl) ?_
    refine gE_2_coder X hS lk15 (dk DJ0_coder_7d493 3 rfl) ?_
    refine lv_goto (tgt := 14) hx hb (dk DJ0_coder_7d493 4 rfl) (by decide) ?_
    exact W.zret (v := 0) hx hb hr (by decide) (fun t ht hW => ⟨⟨_, _, rfl, h, by rw [ht]; exact hP, va_K.moved hW.alike X.2.2.2.2.2.2.1, hD⟩, hS.F ht⟩) hS.2.2 (dk DJ0_coder_7d493 6 rfl)

def ww_J0_length_8abf5_102 : List Cond := .code yJ0_length_8abf5 cJ0_length_8abf5 1 (some .int) :: (WdX ++ WsX)
theorem q_J0_length_8abf5_102 : yJ0_length_8abf5.cls = RJ0 ∧ yJ0_length_8abf5.cls ≠ "java/lang/invoke/MethodHandle" ∧ yJ0_length_8abf5.cls ≠ "java/lang/invoke/VarHandle" ∧ (parseMethodDescriptor yJ0_length_8abf5.desc).map (fun d => d.parameters.length) = some 0 := by decide +kernel
def VC_J0_length_8abf5_102 (Post : Int32 → XS → Prop) (S : XS) : Prop := VC_J0_coder_7d493_102 (fun r2 S1 => Post ((13 : Int32) >>> (r2 &&& 31)) S1) S
set_option maxHeartbeats 4000000 in
set_option maxRecDepth 100000 in
theorem m_J0_length_8abf5_102 {l : Launch} {dC : Nat → ClassId} {dI : Nat → Nat → Nat} {q : Nat → Nat} {cI cT : ClassId} {en : Nat → Nat} {sz : Nat} {Post : Int32 → XS → Prop} (S : XS) (h : VC_J0_length_8abf5_102 Post S) : Met l yJ0_length_8abf5 ww_J0_length_8abf5_102 ({ frames := 1, cells := 0, slots := 0, locals := 20 } : Room) (va_Pc [.ref (en 2)] (preX dC dI q cI cT en S sz)) (va_Qi Post (atX dC dI q cI cT (va_A (wX q cI cT S) sz)) (va_A (wX q cI cT S) sz)) 0 0 (va_A (wX q cI cT S) sz) := by
  refine oX (cc := cJ0_length_8abf5) (maxL := 1) (ret := (some .int)) (Qc := fun A => va_Qi Post (atX dC dI q cI cT A) A) (own := RJ0) (by decide) rfl (fun w h => List.mem_cons_of_mem _ (List.mem_append_right _ h)) rfl (Nat.le_of_ble_eq_true rfl) (fun p e s m below meth c A ls X hr hlocks hP hD hS hl => ?_)
  have hx := X.1
  have hb := X.2.1
  have hl : lv_has ls 1 [(0, .ref (en 2))] := hl
  have lk9 := X.2.2.2.2.1 (.fieldLink RJ0 9 "java/lang/String" "value" "[B") (inX 181 rfl)
  dsimp only [VC_J0_length_8abf5_102] at h
  refine lv_aload_n hx hb (dk DJ0_length_8abf5 0 rfl) rfl (lv_at hl 0 rfl) ?_
  refine gE_2_value X hS lk9 (dk DJ0_length_8abf5 1 rfl) ?_
  refine alE_4 X hS (dk DJ0_length_8abf5 2 rfl) ?_
  refine lv_aload_n hx hb (dk DJ0_length_8abf5 3 rfl) rfl (lv_at hl 0 rfl) ?_
  refine cXi (As := []) (rest := [.int 13]) X (m_J0_coder_7d493_102 (l := l) (dC := dC) (dI := dI) (q := q) (cI := cI) (cT := cT) (en := en) (sz := _) S h) (cwV 0 X.2.2.2.2.1 (gxV 182 183 184 185 177 rfl rfl rfl rfl rfl) rfl rfl rfl q_J0_coder_7d493_102 ⟨Nat.le_of_ble_eq_true rfl, Nat.le_of_ble_eq_true rfl⟩) (rE_2 X hS) hP hD hS rfl hl.1 rfl (Nat.le_of_ble_eq_true rfl) (dk DJ0_length_8abf5 4 rfl) (fun r2 S1 H locs h hP hD hS => ?_)
  refine lv_ishr hx hb (dk DJ0_length_8abf5 5 rfl) ?_
  exact W.iret (v := (13 : Int32) >>> (r2 &&& 31)) hx hb hr (fun t ht hW => ⟨⟨_, _, rfl, h, by rw [ht]; exact hP, va_K.moved hW.alike X.2.2.2.2.2.2.1, hD⟩, hS.F ht⟩) hS.2.2 (dk DJ0_length_8abf5 6 rfl)

def ww_J1_canEncode_9a6ad : List Cond := .code yJ1_canEncode_9a6ad cJ1_canEncode_9a6ad 1 (some .boolean) :: (WdX ++ WsX)
theorem q_J1_canEncode_9a6ad : yJ1_canEncode_9a6ad.cls ≠ "java/lang/invoke/MethodHandle" ∧ yJ1_canEncode_9a6ad.cls ≠ "java/lang/invoke/VarHandle" ∧ (parseMethodDescriptor yJ1_canEncode_9a6ad.desc).map (fun d => d.parameters.length) = some 1 := by decide +kernel
def VC_J1_canEncode_9a6ad (Post : Int32 → Prop) (a0 : Int32) : Prop := ((a0 < 0 → Post 0) ∧ (¬ a0 < 0 → ((255 < a0 → Post 0) ∧ (¬ 255 < a0 → Post 1))))
set_option maxHeartbeats 4000000 in
set_option maxRecDepth 100000 in
theorem m_J1_canEncode_9a6ad {l : Launch} {Post : Int32 → Prop} (a0 : Int32) (h : VC_J1_canEncode_9a6ad Post a0) : Met l yJ1_canEncode_9a6ad ww_J1_canEncode_9a6ad ({ frames := 0, cells := 0, slots := 0, locals := 0 } : Room) (va_Pc [.int a0] (fun _ => True)) (vp_Si Post) 0 0 (fun _ => False) := by
  refine oS (cc := cJ1_canEncode_9a6ad) (maxL := 1) (ret := (some .boolean)) (Qc := vp_Si Post) (by decide) rfl (Nat.le_of_ble_eq_true rfl) (fun p e s m below meth c ls X hr hlocks hl => ?_)
  have hx := X.1
  have hb := X.2.1
  have hP := trivial
  have hD := trivial
  have hS := trivial
  have hl : lv_has ls 1 [(0, .int a0)] := hl
  dsimp only [VC_J1_canEncode_9a6ad] at h
  refine lv_iload_n hx hb (dk DJ1_canEncode_9a6ad 0 rfl) rfl (lv_at hl 0 rfl) ?_
  refine lv_if_lt (tgt := 15) hx hb (dk DJ1_canEncode_9a6ad 1 rfl) (by decide) (fun hc => ?_) (fun hc => ?_)
  · have h := h.1 hc
    refine lv_iconst (v := 0) hx hb (dk DJ1_canEncode_9a6ad 7 rfl) (by decide) ?_
    exact W.zret (v := 0) hx hb hr (by decide) (fun t ht hW => ⟨_, rfl, h, ht⟩) (fun _ h => by cases h) (dk DJ1_canEncode_9a6ad 8 rfl)
  · have h := h.2 hc
    refine lv_iload_n hx hb (dk DJ1_canEncode_9a6ad 2 rfl) rfl (lv_at hl 0 rfl) ?_
    refine lv_sipush (v := 255) hx hb (dk DJ1_canEncode_9a6ad 3 rfl) (by decide) ?_
    refine lv_icmp_gt (tgt := 15) hx hb (dk DJ1_canEncode_9a6ad 4 rfl) (by decide) (fun hc => ?_) (fun hc => ?_)
    · have h := h.1 hc
      refine lv_iconst (v := 0) hx hb (dk DJ1_canEncode_9a6ad 7 rfl) (by decide) ?_
      exact W.zret (v := 0) hx hb hr (by decide) (fun t ht hW => ⟨_, rfl, h, ht⟩) (fun _ h => by cases h) (dk DJ1_canEncode_9a6ad 8 rfl)
    · have h := h.2 hc
      refine lv_iconst (v := 1) hx hb (dk DJ1_canEncode_9a6ad 5 rfl) (by decide) ?_
      refine lv_goto (tgt := 16) hx hb (dk DJ1_canEncode_9a6ad 6 rfl) (by decide) ?_
      exact W.zret (v := 1) hx hb hr (by decide) (fun t ht hW => ⟨_, rfl, h, ht⟩) (fun _ h => by cases h) (dk DJ1_canEncode_9a6ad 8 rfl)

def ww_J1_indexOfChar_4cfef_104 : List Cond := .code yJ1_indexOfChar_4cfef cJ1_indexOfChar_4cfef 6 (some .int) :: (WdX ++ WsX)
theorem q_J1_indexOfChar_4cfef_104 : yJ1_indexOfChar_4cfef.cls ≠ "java/lang/invoke/MethodHandle" ∧ yJ1_indexOfChar_4cfef.cls ≠ "java/lang/invoke/VarHandle" ∧ (parseMethodDescriptor yJ1_indexOfChar_4cfef.desc).map (fun d => d.parameters.length) = some 4 := by decide +kernel
abbrev Hd_J1_indexOfChar_4cfef_104 : Type := (Int32 × Int32 × Int32 × Int32 × Int32)
def B_J1_indexOfChar_4cfef_104 (Post : Int32 → XS → Prop) (K : Hd_J1_indexOfChar_4cfef_104 → XS → Prop) : Hd_J1_indexOfChar_4cfef_104 → XS → Prop
  | (x1, x2, x3, x4, x5), S => ((x3 ≤ x5 → Post (-1) S) ∧ (¬ x3 ≤ x5 → vp_in x5 13 ∧ ((¬ (eG.getD x5.toNatClampNeg 0) = x4 → ∀ v2 : Int32, v2 = x5 + 1 → K (x1, x2, x3, x4, v2) S) ∧ ((eG.getD x5.toNatClampNeg 0) = x4 → Post x5 S))))
def VC_J1_indexOfChar_4cfef_104 (Post : Int32 → XS → Prop) (a1 : Int32) (a2 : Int32) (a3 : Int32) (S : XS) : Prop := ∀ K : Hd_J1_indexOfChar_4cfef_104 → XS → Prop, (∀ h S, B_J1_indexOfChar_4cfef_104 Post K h S → K h S) → ∀ v1 : Int32, v1 = a1.toInt8.toInt32 → K (a1, a2, a3, v1, a2) S
set_option maxHeartbeats 4000000 in
set_option maxRecDepth 100000 in
theorem h_J1_indexOfChar_4cfef_104_0 {p : Program} {l : Launch} {e : Env} {s : State} {m : MethodId} {below : List Frame} {meth : Method} {c : Code} {dC : Nat → ClassId} {dI : Nat → Nat → Nat} {q : Nat → Nat} {cI cT : ClassId} {en : Nat → Nat} {A : Nat → Prop} {args : Array Value} {Post : Int32 → XS → Prop} {K : Hd_J1_indexOfChar_4cfef_104 → XS → Prop} (X : XX p s m args c cJ1_indexOfChar_4cfef 6 ww_J1_indexOfChar_4cfef_104 RJ1 dC dI cI cT en A) (hr : meth.sig.returnType = (some .int)) (hlocks : meth.locks = false) (hK0 : ∀ (x1 : Int32) (x2 : Int32) (x3 : Int32) (x4 : Int32) (x5 : Int32) (S : XS), K (x1, x2, x3, x4, x5) S → ∀ (H : Heap) (locs : List Loc), va_P (dC, dI) vwCl (wX q cI cT S) H → va_D A (wX q cI cT S) → va_S A s.heap H locs → ∀ ls : Array Slot, lv_has ls 6 [(0, .ref (en 4)), (1, .int x1), (2, .int x2), (3, .int x3), (4, .int x4), (5, .int x5)] → W p l e (headSpec ww_J1_indexOfChar_4cfef_104 ({ frames := 0, cells := 0, slots := 0, locals := 0 } : Room)).room s m args below meth c H locs 0 0 (MQ below (va_Qi Post (atX dC dI q cI cT A) A) args s 0 0 A) (F0 m 7 ls [])) (x1 : Int32) (x2 : Int32) (x3 : Int32) (x4 : Int32) (x5 : Int32) (S : XS) (h : B_J1_indexOfChar_4cfef_104 Post K (x1, x2, x3, x4, x5) S) : ∀ (H : Heap) (locs : List Loc), va_P (dC, dI) vwCl (wX q cI cT S) H → va_D A (wX q cI cT S) → va_S A s.heap H locs → ∀ ls : Array Slot, lv_has ls 6 [(0, .ref (en 4)), (1, .int x1), (2, .int x2), (3, .int x3), (4, .int x4), (5, .int x5)] → W p l e (headSpec ww_J1_indexOfChar_4cfef_104 ({ frames := 0, cells := 0, slots := 0, locals := 0 } : Room)).room s m args below meth c H locs 0 0 (MQ below (va_Qi Post (atX dC dI q cI cT A) A) args s 0 0 A) (F0 m 7 ls []) := by
  have hx := X.1
  have hb := X.2.1
  intro H locs hP hD hS ls hl
  dsimp only [B_J1_indexOfChar_4cfef_104] at h
  refine lv_iload hx hb (dk DJ1_indexOfChar_4cfef 5 rfl) (lv_at hl 5 rfl) ?_
  refine lv_iload_n hx hb (dk DJ1_indexOfChar_4cfef 6 rfl) rfl (lv_at hl 3 rfl) ?_
  refine lv_icmp_ge (tgt := 31) hx hb (dk DJ1_indexOfChar_4cfef 7 rfl) (by decide) (fun hc => ?_) (fun hc => ?_)
  · have h := h.1 hc
    refine lv_iconst (v := (-1)) hx hb (dk DJ1_indexOfChar_4cfef 17 rfl) (by decide) ?_
    exact W.iret (v := (-1)) hx hb hr (fun t ht hW => ⟨⟨_, _, rfl, h, by rw [ht]; exact hP, va_K.moved hW.alike X.2.2.2.2.2.2.1, hD⟩, hS.F ht⟩) hS.2.2 (dk DJ1_indexOfChar_4cfef 18 rfl)
  · have h := h.2 hc
    refine lv_aload_n hx hb (dk DJ1_indexOfChar_4cfef 8 rfl) rfl (lv_at hl 0 rfl) ?_
    refine lv_iload hx hb (dk DJ1_indexOfChar_4cfef 9 rfl) (lv_at hl 5 rfl) ?_
    obtain ⟨hin, h⟩ := h
    refine ldE_4 X hS hin (dk DJ1_indexOfChar_4cfef 10 rfl) ?_
    refine lv_iload hx hb (dk DJ1_indexOfChar_4cfef 11 rfl) (lv_at hl 4 rfl) ?_
    refine lv_icmp_ne (tgt := 25) hx hb (dk DJ1_indexOfChar_4cfef 12 rfl) (by decide) (fun hc => ?_) (fun hc => ?_)
    · have h := h.1 hc
      obtain ⟨v2, ev2⟩ : ∃ y : Int32, y = x5 + 1 := ⟨_, rfl⟩
      have h := h v2 ev2
      refine lv_iinc (v := v2) (lv' := [(5, .int v2), (0, .ref (en 4)), (1, .int x1), (2, .int x2), (3, .int x3), (4, .int x4)]) hx hb (dk DJ1_indexOfChar_4cfef 15 rfl) hl (k := 5) rfl (by rw [ev2]; rfl) (by decide) rfl (fun ls hl => ?_)
      refine lv_goto (tgt := 7) hx hb (dk DJ1_indexOfChar_4cfef 16 rfl) (by decide) ?_
      exact hK0 x1 x2 x3 x4 v2 S h _ _ hP hD hS ls (lv_sub hl [1, 2, 3, 4, 5, 0] rfl)
    · have h := h.2 hc
      refine lv_iload hx hb (dk DJ1_indexOfChar_4cfef 13 rfl) (lv_at hl 5 rfl) ?_
      exact W.iret (v := x5) hx hb hr (fun t ht hW => ⟨⟨_, _, rfl, h, by rw [ht]; exact hP, va_K.moved hW.alike X.2.2.2.2.2.2.1, hD⟩, hS.F ht⟩) hS.2.2 (dk DJ1_indexOfChar_4cfef 14 rfl)
set_option maxHeartbeats 4000000 in
set_option maxRecDepth 100000 in
theorem m_J1_indexOfChar_4cfef_104 {l : Launch} {dC : Nat → ClassId} {dI : Nat → Nat → Nat} {q : Nat → Nat} {cI cT : ClassId} {en : Nat → Nat} {sz : Nat} {Post : Int32 → XS → Prop} (a1 : Int32) (a2 : Int32) (a3 : Int32) (S : XS) (h : VC_J1_indexOfChar_4cfef_104 Post a1 a2 a3 S) : Met l yJ1_indexOfChar_4cfef ww_J1_indexOfChar_4cfef_104 ({ frames := 0, cells := 0, slots := 0, locals := 0 } : Room) (va_Pc [.ref (en 4), .int a1, .int a2, .int a3] (preX dC dI q cI cT en S sz)) (va_Qi Post (atX dC dI q cI cT (va_A (wX q cI cT S) sz)) (va_A (wX q cI cT S) sz)) 0 0 (va_A (wX q cI cT S) sz) := by
  refine oX (cc := cJ1_indexOfChar_4cfef) (maxL := 6) (ret := (some .int)) (Qc := fun A => va_Qi Post (atX dC dI q cI cT A) A) (own := RJ1) (by decide) rfl (fun w h => List.mem_cons_of_mem _ (List.mem_append_right _ h)) rfl (Nat.le_of_ble_eq_true rfl) (fun p e s m below meth c A ls X hr hlocks hP hD hS hl => ?_)
  have hx := X.1
  have hb := X.2.1
  have hl : lv_has ls 6 [(0, .ref (en 4)), (1, .int a1), (2, .int a2), (3, .int a3)] := hl
  generalize hargs : ([.ref (en 4), .int a1, .int a2, .int a3] : List Value).toArray = args at X ⊢
  have h := h (fun hd S => match hd with | (x1, x2, x3, x4, x5) => ∀ (H : Heap) (locs : List Loc), va_P (dC, dI) vwCl (wX q cI cT S) H → va_D A (wX q cI cT S) → va_S A s.heap H locs → ∀ ls : Array Slot, lv_has ls 6 [(0, .ref (en 4)), (1, .int x1), (2, .int x2), (3, .int x3), (4, .int x4), (5, .int x5)] → W p l e (headSpec ww_J1_indexOfChar_4cfef_104 ({ frames := 0, cells := 0, slots := 0, locals := 0 } : Room)).room s m args below meth c H locs 0 0 (MQ below (va_Qi Post (atX dC dI q cI cT A) A) args s 0 0 A) (F0 m 7 ls [])) ?_
  · skip
    refine lv_iload_n hx hb (dk DJ1_indexOfChar_4cfef 0 rfl) rfl (lv_at hl 1 rfl) ?_
    refine lv_i2b hx hb (dk DJ1_indexOfChar_4cfef 1 rfl) rfl ?_
    refine lv_topi (fun v1 ev1 => ?_)
    have h := h v1 ev1
    refine lv_istore (lv' := [(4, .int v1), (0, .ref (en 4)), (1, .int a1), (2, .int a2), (3, .int a3)]) hx hb (dk DJ1_indexOfChar_4cfef 2 rfl) hl (by decide) rfl (fun ls hl => ?_)
    refine lv_iload_n hx hb (dk DJ1_indexOfChar_4cfef 3 rfl) rfl (lv_at hl 3 rfl) ?_
    refine lv_istore (lv' := [(5, .int a2), (4, .int v1), (0, .ref (en 4)), (1, .int a1), (2, .int a2), (3, .int a3)]) hx hb (dk DJ1_indexOfChar_4cfef 4 rfl) hl (by decide) rfl (fun ls hl => ?_)
    exact h _ _ hP hD hS ls (lv_sub hl [2, 3, 4, 5, 1, 0] rfl)
  · rintro ⟨x1, x2, x3, x4, x5⟩ S hB
    exact h_J1_indexOfChar_4cfef_104_0 X hr hlocks (hK0 := fun _ _ _ _ _ _ h => h) x1 x2 x3 x4 x5 S hB

def ww_J1_indexOf_4cfef_104 : List Cond := .code yJ1_indexOf_4cfef cJ1_indexOf_4cfef 4 (some .int) :: (WdX ++ WsX)
theorem q_J1_indexOf_4cfef_104 : yJ1_indexOf_4cfef.cls ≠ "java/lang/invoke/MethodHandle" ∧ yJ1_indexOf_4cfef.cls ≠ "java/lang/invoke/VarHandle" ∧ (parseMethodDescriptor yJ1_indexOf_4cfef.desc).map (fun d => d.parameters.length) = some 4 := by decide +kernel
def VC_J1_indexOf_4cfef_104 (Post : Int32 → XS → Prop) (a1 : Int32) (a2 : Int32) (a3 : Int32) (S : XS) : Prop := VC_J1_canEncode_9a6ad (fun r1 => ((¬ r1 = 0 → ∀ v2 : Int32, v2 = (if a2 < 0 then 0 else a2) → ∀ v3 : Int32, v3 = (if 13 < a3 then 13 else a3) → ((v2 < v3 → VC_J1_indexOfChar_4cfef_104 (fun r5 S4 => Post r5 S4) a1 v2 v3 S) ∧ (¬ v2 < v3 → Post (-1) S))) ∧ (r1 = 0 → Post (-1) S))) a1
set_option maxHeartbeats 4000000 in
set_option maxRecDepth 100000 in
theorem m_J1_indexOf_4cfef_104 {l : Launch} {dC : Nat → ClassId} {dI : Nat → Nat → Nat} {q : Nat → Nat} {cI cT : ClassId} {en : Nat → Nat} {sz : Nat} {Post : Int32 → XS → Prop} (a1 : Int32) (a2 : Int32) (a3 : Int32) (S : XS) (h : VC_J1_indexOf_4cfef_104 Post a1 a2 a3 S) : Met l yJ1_indexOf_4cfef ww_J1_indexOf_4cfef_104 ({ frames := 1, cells := 0, slots := 0, locals := 40 } : Room) (va_Pc [.ref (en 4), .int a1, .int a2, .int a3] (preX dC dI q cI cT en S sz)) (va_Qi Post (atX dC dI q cI cT (va_A (wX q cI cT S) sz)) (va_A (wX q cI cT S) sz)) 0 0 (va_A (wX q cI cT S) sz) := by
  refine oX (cc := cJ1_indexOf_4cfef) (maxL := 4) (ret := (some .int)) (Qc := fun A => va_Qi Post (atX dC dI q cI cT A) A) (own := RJ1) (by decide) rfl (fun w h => List.mem_cons_of_mem _ (List.mem_append_right _ h)) rfl (Nat.le_of_ble_eq_true rfl) (fun p e s m below meth c A ls X hr hlocks hP hD hS hl => ?_)
  have hx := X.1
  have hb := X.2.1
  have hl : lv_has ls 4 [(0, .ref (en 4)), (1, .int a1), (2, .int a2), (3, .int a3)] := hl
  dsimp only [VC_J1_indexOf_4cfef_104] at h
  refine lv_iload_n hx hb (dk DJ1_indexOf_4cfef 0 rfl) rfl (lv_at hl 1 rfl) ?_
  refine cSi (As := [.int a1]) (rest := []) ⟨X.1, X.2.1, X.2.2.1, X.2.2.2.1, X.2.2.2.2.1⟩ (m_J1_canEncode_9a6ad (l := l) a1 h) (va_cwS 1 X.2.2.2.2.1 (gxS 250 251 216 245 rfl rfl rfl rfl) rfl rfl rfl q_J1_canEncode_9a6ad ⟨Nat.le_of_ble_eq_true rfl, Nat.le_of_ble_eq_true rfl⟩) rfl hl.1 rfl (Nat.le_of_ble_eq_true rfl) (dk DJ1_indexOf_4cfef 1 rfl) (fun r1 h => ?_)
  refine lv_if_ne (tgt := 9) hx hb (dk DJ1_indexOf_4cfef 2 rfl) (by decide) (fun hc => ?_) (fun hc => ?_)
  · have h := h.1 hc
    refine lv_iload_n hx hb (dk DJ1_indexOf_4cfef 5 rfl) rfl (lv_at hl 2 rfl) ?_
    refine lv_iconst (v := 0) hx hb (dk DJ1_indexOf_4cfef 6 rfl) (by decide) ?_
    refine va_mmax hx hb (X.2.2.1.trans hl.1.symm) X.2.2.2.1 (X.2.2.2.2.1 (.methodLink RJ1 92 Lib.Math.max.name) (inX 248 rfl)) (X.2.2.2.2.1 (.static Lib.Math.max.name) (inX 104 rfl)) (X.2.2.2.2.1 (.initialized "java/lang/Math") (inX 21 rfl)) (X.2.2.2.2.1 (.code Lib.Math.max.name Lib.Math.max.code 2 (some .int)) (inX 105 rfl)) (Nat.le_of_ble_eq_true rfl) (Nat.le_of_ble_eq_true rfl) (Nat.zero_le _) (Nat.zero_le _) (dk DJ1_indexOf_4cfef 7 rfl) ?_
    refine lv_topi (fun v2 ev2 => ?_)
    have h := h v2 ev2
    refine lv_istore_n (lv' := [(2, .int v2), (0, .ref (en 4)), (1, .int a1), (3, .int a3)]) hx hb (dk DJ1_indexOf_4cfef 8 rfl) rfl hl (by decide) rfl (fun ls hl => ?_)
    refine lv_iload_n hx hb (dk DJ1_indexOf_4cfef 9 rfl) rfl (lv_at hl 3 rfl) ?_
    refine lv_aload_n hx hb (dk DJ1_indexOf_4cfef 10 rfl) rfl (lv_at hl 1 rfl) ?_
    refine alE_4 X hS (dk DJ1_indexOf_4cfef 11 rfl) ?_
    refine va_mmin hx hb (X.2.2.1.trans hl.1.symm) X.2.2.2.1 (X.2.2.2.2.1 (.methodLink RJ1 38 Lib.Math.min.name) (inX 249 rfl)) (X.2.2.2.2.1 (.static Lib.Math.min.name) (inX 20 rfl)) (X.2.2.2.2.1 (.initialized "java/lang/Math") (inX 21 rfl)) (X.2.2.2.2.1 (.code Lib.Math.min.name Lib.Math.min.code 2 (some .int)) (inX 22 rfl)) (Nat.le_of_ble_eq_true rfl) (Nat.le_of_ble_eq_true rfl) (Nat.zero_le _) (Nat.zero_le _) (dk DJ1_indexOf_4cfef 12 rfl) ?_
    refine lv_topi (fun v3 ev3 => ?_)
    have h := h v3 ev3
    refine lv_istore_n (lv' := [(3, .int v3), (2, .int v2), (0, .ref (en 4)), (1, .int a1)]) hx hb (dk DJ1_indexOf_4cfef 13 rfl) rfl hl (by decide) rfl (fun ls hl => ?_)
    refine lv_iload_n hx hb (dk DJ1_indexOf_4cfef 14 rfl) rfl (lv_at hl 1 rfl) ?_
    refine lv_iload_n hx hb (dk DJ1_indexOf_4cfef 15 rfl) rfl (lv_at hl 0 rfl) ?_
    refine lv_icmp_lt (tgt := 29) hx hb (dk DJ1_indexOf_4cfef 16 rfl) (by decide) (fun hc => ?_) (fun hc => ?_)
    · have h := h.1 hc
      refine lv_aload_n hx hb (dk DJ1_indexOf_4cfef 19 rfl) rfl (lv_at hl 2 rfl) ?_
      refine lv_iload_n hx hb (dk DJ1_indexOf_4cfef 20 rfl) rfl (lv_at hl 3 rfl) ?_
      refine lv_iload_n hx hb (dk DJ1_indexOf_4cfef 21 rfl) rfl (lv_at hl 1 rfl) ?_
      refine lv_iload_n hx hb (dk DJ1_indexOf_4cfef 22 rfl) rfl (lv_at hl 0 rfl) ?_
      refine cXsi (As := [.ref (en 4), .int a1, .int v2, .int v3]) (rest := []) X (m_J1_indexOfChar_4cfef_104 (l := l) (dC := dC) (dI := dI) (q := q) (cI := cI) (cT := cT) (en := en) (sz := _) a1 v2 v3 S h) (va_cwS 4 X.2.2.2.2.1 (gxS 252 253 216 246 rfl rfl rfl rfl) rfl rfl rfl q_J1_indexOfChar_4cfef_104 ⟨Nat.le_of_ble_eq_true rfl, Nat.le_of_ble_eq_true rfl⟩) hP hD hS rfl hl.1 rfl (Nat.le_of_ble_eq_true rfl) (dk DJ1_indexOf_4cfef 23 rfl) (fun r5 S4 H locs h hP hD hS => ?_)
      exact W.iret (v := r5) hx hb hr (fun t ht hW => ⟨⟨_, _, rfl, h, by rw [ht]; exact hP, va_K.moved hW.alike X.2.2.2.2.2.2.1, hD⟩, hS.F ht⟩) hS.2.2 (dk DJ1_indexOf_4cfef 24 rfl)
    · have h := h.2 hc
      refine lv_iconst (v := (-1)) hx hb (dk DJ1_indexOf_4cfef 17 rfl) (by decide) ?_
      exact W.iret (v := (-1)) hx hb hr (fun t ht hW => ⟨⟨_, _, rfl, h, by rw [ht]; exact hP, va_K.moved hW.alike X.2.2.2.2.2.2.1, hD⟩, hS.F ht⟩) hS.2.2 (dk DJ1_indexOf_4cfef 18 rfl)
  · have h := h.2 hc
    refine lv_iconst (v := (-1)) hx hb (dk DJ1_indexOf_4cfef 3 rfl) (by decide) ?_
    exact W.iret (v := (-1)) hx hb hr (fun t ht hW => ⟨⟨_, _, rfl, h, by rw [ht]; exact hP, va_K.moved hW.alike X.2.2.2.2.2.2.1, hD⟩, hS.F ht⟩) hS.2.2 (dk DJ1_indexOf_4cfef 4 rfl)

def ww_J0_indexOf_7cf53_102 : List Cond := .code yJ0_indexOf_7cf53 cJ0_indexOf_7cf53 3 (some .int) :: (WdX ++ WsX)
theorem q_J0_indexOf_7cf53_102 : yJ0_indexOf_7cf53.cls = RJ0 ∧ yJ0_indexOf_7cf53.cls ≠ "java/lang/invoke/MethodHandle" ∧ yJ0_indexOf_7cf53.cls ≠ "java/lang/invoke/VarHandle" ∧ (parseMethodDescriptor yJ0_indexOf_7cf53.desc).map (fun d => d.parameters.length) = some 2 := by decide +kernel
def VC_J0_indexOf_7cf53_102 (Post : Int32 → XS → Prop) (a0 : Int32) (a1 : Int32) (S : XS) : Prop := VC_J0_isLatin1_aae02_102 (fun r2 S1 => ((r2 = 0 → VC_J0_length_8abf5_102 (fun r4 S3 => False) S1) ∧ (¬ r2 = 0 → VC_J0_length_8abf5_102 (fun r6 S5 => VC_J1_indexOf_4cfef_104 (fun r8 S7 => Post r8 S7) a0 a1 r6 S5) S1))) S
set_option maxHeartbeats 4000000 in
set_option maxRecDepth 100000 in
theorem m_J0_indexOf_7cf53_102 {l : Launch} {dC : Nat → ClassId} {dI : Nat → Nat → Nat} {q : Nat → Nat} {cI cT : ClassId} {en : Nat → Nat} {sz : Nat} {Post : Int32 → XS → Prop} (a0 : Int32) (a1 : Int32) (S : XS) (h : VC_J0_indexOf_7cf53_102 Post a0 a1 S) : Met l yJ0_indexOf_7cf53 ww_J0_indexOf_7cf53_102 ({ frames := 2, cells := 0, slots := 0, locals := 63 } : Room) (va_Pc [.ref (en 2), .int a0, .int a1] (preX dC dI q cI cT en S sz)) (va_Qi Post (atX dC dI q cI cT (va_A (wX q cI cT S) sz)) (va_A (wX q cI cT S) sz)) 0 0 (va_A (wX q cI cT S) sz) := by
  refine oX (cc := cJ0_indexOf_7cf53) (maxL := 3) (ret := (some .int)) (Qc := fun A => va_Qi Post (atX dC dI q cI cT A) A) (own := RJ0) (by decide) rfl (fun w h => List.mem_cons_of_mem _ (List.mem_append_right _ h)) rfl (Nat.le_of_ble_eq_true rfl) (fun p e s m below meth c A ls X hr hlocks hP hD hS hl => ?_)
  have hx := X.1
  have hb := X.2.1
  have hl : lv_has ls 3 [(0, .ref (en 2)), (1, .int a0), (2, .int a1)] := hl
  have lk9 := X.2.2.2.2.1 (.fieldLink RJ0 9 "java/lang/String" "value" "[B") (inX 181 rfl)
  dsimp only [VC_J0_indexOf_7cf53_102] at h
  refine lv_aload_n hx hb (dk DJ0_indexOf_7cf53 0 rfl) rfl (lv_at hl 0 rfl) ?_
  refine cXi (As := []) (rest := []) X (m_J0_isLatin1_aae02_102 (l := l) (dC := dC) (dI := dI) (q := q) (cI := cI) (cT := cT) (en := en) (sz := _) S h) (cwV 0 X.2.2.2.2.1 (gxV 211 212 213 185 186 rfl rfl rfl rfl rfl) rfl rfl rfl q_J0_isLatin1_aae02_102 ⟨Nat.le_of_ble_eq_true rfl, Nat.le_of_ble_eq_true rfl⟩) (rE_2 X hS) hP hD hS rfl hl.1 rfl (Nat.le_of_ble_eq_true rfl) (dk DJ0_indexOf_7cf53 1 rfl) (fun r2 S1 H locs h hP hD hS => ?_)
  refine lv_if_eq (tgt := 23) hx hb (dk DJ0_indexOf_7cf53 2 rfl) (by decide) (fun hc => ?_) (fun hc => ?_)
  · have h := h.1 hc
    refine lv_aload_n hx hb (dk DJ0_indexOf_7cf53 11 rfl) rfl (lv_at hl 0 rfl) ?_
    refine gE_2_value X hS lk9 (dk DJ0_indexOf_7cf53 12 rfl) ?_
    refine lv_iload_n hx hb (dk DJ0_indexOf_7cf53 13 rfl) rfl (lv_at hl 1 rfl) ?_
    refine lv_iload_n hx hb (dk DJ0_indexOf_7cf53 14 rfl) rfl (lv_at hl 2 rfl) ?_
    refine lv_aload_n hx hb (dk DJ0_indexOf_7cf53 15 rfl) rfl (lv_at hl 0 rfl) ?_
    refine cXi (As := []) (rest := [.int a1, .int a0, .ref (en 4)]) X (m_J0_length_8abf5_102 (l := l) (dC := dC) (dI := dI) (q := q) (cI := cI) (cT := cT) (en := en) (sz := _) S1 h) (cwV 0 X.2.2.2.2.1 (gxV 288 233 234 185 180 rfl rfl rfl rfl rfl) rfl rfl rfl q_J0_length_8abf5_102 ⟨Nat.le_of_ble_eq_true rfl, Nat.le_of_ble_eq_true rfl⟩) (rE_2 X hS) hP hD hS rfl hl.1 rfl (Nat.le_of_ble_eq_true rfl) (dk DJ0_indexOf_7cf53 16 rfl) (fun r4 S3 H locs h hP hD hS => ?_)
    exact h.elim
  · have h := h.2 hc
    refine lv_aload_n hx hb (dk DJ0_indexOf_7cf53 3 rfl) rfl (lv_at hl 0 rfl) ?_
    refine gE_2_value X hS lk9 (dk DJ0_indexOf_7cf53 4 rfl) ?_
    refine lv_iload_n hx hb (dk DJ0_indexOf_7cf53 5 rfl) rfl (lv_at hl 1 rfl) ?_
    refine lv_iload_n hx hb (dk DJ0_indexOf_7cf53 6 rfl) rfl (lv_at hl 2 rfl) ?_
    refine lv_aload_n hx hb (dk DJ0_indexOf_7cf53 7 rfl) rfl (lv_at hl 0 rfl) ?_
    refine cXi (As := []) (rest := [.int a1, .int a0, .ref (en 4)]) X (m_J0_length_8abf5_102 (l := l) (dC := dC) (dI := dI) (q := q) (cI := cI) (cT := cT) (en := en) (sz := _) S1 h) (cwV 0 X.2.2.2.2.1 (gxV 288 233 234 185 180 rfl rfl rfl rfl rfl) rfl rfl rfl q_J0_length_8abf5_102 ⟨Nat.le_of_ble_eq_true rfl, Nat.le_of_ble_eq_true rfl⟩) (rE_2 X hS) hP hD hS rfl hl.1 rfl (Nat.le_of_ble_eq_true rfl) (dk DJ0_indexOf_7cf53 8 rfl) (fun r6 S5 H locs h hP hD hS => ?_)
    refine cXsi (As := [.ref (en 4), .int a0, .int a1, .int r6]) (rest := []) X (m_J1_indexOf_4cfef_104 (l := l) (dC := dC) (dI := dI) (q := q) (cI := cI) (cT := cT) (en := en) (sz := _) a0 a1 r6 S5 h) (va_cwS 4 X.2.2.2.2.1 (gxS 289 290 216 247 rfl rfl rfl rfl) rfl rfl rfl q_J1_indexOf_4cfef_104 ⟨Nat.le_of_ble_eq_true rfl, Nat.le_of_ble_eq_true rfl⟩) hP hD hS rfl hl.1 rfl (Nat.le_of_ble_eq_true rfl) (dk DJ0_indexOf_7cf53 9 rfl) (fun r8 S7 H locs h hP hD hS => ?_)
    refine lv_goto (tgt := 36) hx hb (dk DJ0_indexOf_7cf53 10 rfl) (by decide) ?_
    exact W.iret (v := r8) hx hb hr (fun t ht hW => ⟨⟨_, _, rfl, h, by rw [ht]; exact hP, va_K.moved hW.alike X.2.2.2.2.2.2.1, hD⟩, hS.F ht⟩) hS.2.2 (dk DJ0_indexOf_7cf53 18 rfl)

def ww_J0_indexOf_0f7a4_102 : List Cond := .code yJ0_indexOf_0f7a4 cJ0_indexOf_0f7a4 2 (some .int) :: (WdX ++ WsX)
theorem q_J0_indexOf_0f7a4_102 : yJ0_indexOf_0f7a4.cls = RJ0 ∧ yJ0_indexOf_0f7a4.cls ≠ "java/lang/invoke/MethodHandle" ∧ yJ0_indexOf_0f7a4.cls ≠ "java/lang/invoke/VarHandle" ∧ (parseMethodDescriptor yJ0_indexOf_0f7a4.desc).map (fun d => d.parameters.length) = some 1 := by decide +kernel
def VC_J0_indexOf_0f7a4_102 (Post : Int32 → XS → Prop) (a0 : Int32) (S : XS) : Prop := VC_J0_indexOf_7cf53_102 (fun r2 S1 => Post r2 S1) a0 0 S
set_option maxHeartbeats 4000000 in
set_option maxRecDepth 100000 in
theorem m_J0_indexOf_0f7a4_102 {l : Launch} {dC : Nat → ClassId} {dI : Nat → Nat → Nat} {q : Nat → Nat} {cI cT : ClassId} {en : Nat → Nat} {sz : Nat} {Post : Int32 → XS → Prop} (a0 : Int32) (S : XS) (h : VC_J0_indexOf_0f7a4_102 Post a0 S) : Met l yJ0_indexOf_0f7a4 ww_J0_indexOf_0f7a4_102 ({ frames := 3, cells := 0, slots := 0, locals := 85 } : Room) (va_Pc [.ref (en 2), .int a0] (preX dC dI q cI cT en S sz)) (va_Qi Post (atX dC dI q cI cT (va_A (wX q cI cT S) sz)) (va_A (wX q cI cT S) sz)) 0 0 (va_A (wX q cI cT S) sz) := by
  refine oX (cc := cJ0_indexOf_0f7a4) (maxL := 2) (ret := (some .int)) (Qc := fun A => va_Qi Post (atX dC dI q cI cT A) A) (own := RJ0) (by decide) rfl (fun w h => List.mem_cons_of_mem _ (List.mem_append_right _ h)) rfl (Nat.le_of_ble_eq_true rfl) (fun p e s m below meth c A ls X hr hlocks hP hD hS hl => ?_)
  have hx := X.1
  have hb := X.2.1
  have hl : lv_has ls 2 [(0, .ref (en 2)), (1, .int a0)] := hl
  dsimp only [VC_J0_indexOf_0f7a4_102] at h
  refine lv_aload_n hx hb (dk DJ0_indexOf_0f7a4 0 rfl) rfl (lv_at hl 0 rfl) ?_
  refine lv_iload_n hx hb (dk DJ0_indexOf_0f7a4 1 rfl) rfl (lv_at hl 1 rfl) ?_
  refine lv_iconst (v := 0) hx hb (dk DJ0_indexOf_0f7a4 2 rfl) (by decide) ?_
  refine cXi (As := [.int a0, .int 0]) (rest := []) X (m_J0_indexOf_7cf53_102 (l := l) (dC := dC) (dI := dI) (q := q) (cI := cI) (cT := cT) (en := en) (sz := _) a0 0 S h) (cwV 2 X.2.2.2.2.1 (gxV 294 295 296 185 293 rfl rfl rfl rfl rfl) rfl rfl rfl q_J0_indexOf_7cf53_102 ⟨Nat.le_of_ble_eq_true rfl, Nat.le_of_ble_eq_true rfl⟩) (rE_2 X hS) hP hD hS rfl hl.1 rfl (Nat.le_of_ble_eq_true rfl) (dk DJ0_indexOf_0f7a4 3 rfl) (fun r2 S1 H locs h hP hD hS => ?_)
  exact W.iret (v := r2) hx hb hr (fun t ht hW => ⟨⟨_, _, rfl, h, by rw [ht]; exact hP, va_K.moved hW.alike X.2.2.2.2.2.2.1, hD⟩, hS.F ht⟩) hS.2.2 (dk DJ0_indexOf_0f7a4 4 rfl)

