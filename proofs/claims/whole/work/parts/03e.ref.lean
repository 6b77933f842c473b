-- opensBy isOf isQuarrels nameOf
def ww_opensBy : List Cond := .code yX12_opensBy cX12_opensBy 2 (some .int) :: (WdM ++ wsX120)
theorem q_opensBy : yX12_opensBy.cls = RX12 ∧ yX12_opensBy.cls ≠ "java/lang/invoke/MethodHandle" ∧ yX12_opensBy.cls ≠ "java/lang/invoke/VarHandle" ∧ (parseMethodDescriptor yX12_opensBy.desc).map (fun d => d.parameters.length) = some 1 := by decide +kernel
def VC_opensBy (Post : Int32 → MS → Prop) (a0 : Int32) (S : MS) : Prop := ((¬ (S.1 18) = 8 → ∀ v1 : Int32, v1 = (S.1 18) + 1 → ∀ S2 : MS, S2 = sI S 18 v1 → VC_push (fun S3 => VC_nextToken (fun S4 => Post 0 S4) S3) a0 S2) ∧ ((S.1 18) = 8 → Post 3 S))
set_option maxHeartbeats 4000000 in
set_option maxRecDepth 100000 in
theorem m_opensBy {l : Launch} {dC : Nat → ClassId} {dI : Nat → Nat → Nat} {q : Nat → Nat} {cI cJ cZ : ClassId} {sz : Nat} {Post : Int32 → MS → Prop} (a0 : Int32) (S : MS) (h : VC_opensBy Post a0 S) : Met l yX12_opensBy ww_opensBy ({ frames := 3, cells := 0, slots := 0, locals := 64 } : Room) (va_Pc [.ref (q 0), .int a0] (preM dC dI q cI cJ cZ S sz)) (va_Qi Post (atM dC dI q cI cJ cZ (va_A (wM q cI cJ cZ S) sz)) (va_A (wM q cI cJ cZ S) sz)) 0 0 (va_A (wM q cI cJ cZ S) sz) := by
  refine oM (cc := cX12_opensBy) (maxL := 2) (ret := (some .int)) (Qc := fun A => va_Qi Post (atM dC dI q cI cJ cZ A) A) (by decide) rfl (fun w h => List.mem_cons_of_mem _ (List.mem_append_right _ h)) rfl (Nat.le_of_ble_eq_true rfl) (fun p e s m below meth c A ls X hr hlocks hP hD hS hl => ?_)
  have hx := X.1
  have hb := X.2.1
  have hl : lv_has ls 2 [(0, .ref (q 0)), (1, .int a0)] := hl
  have lk143 := X.2.2.2.2.1 (.fieldLink RX12 143 "BreathOnLoanModel" "opens" "I") (inW 98 rfl)
  dsimp only [VC_opensBy] at h
  refine lv_aload_n hx hb (dk DX12_opensBy 0 rfl) rfl (lv_at hl 0 rfl) ?_
  refine gM X hP 18 (by decide) rfl lk143 (dk DX12_opensBy 1 rfl) ?_
  refine lv_bipush (v := 8) hx hb (dk DX12_opensBy 2 rfl) (by decide) ?_
  refine lv_icmp_ne (tgt := 11) hx hb (dk DX12_opensBy 3 rfl) (by decide) (fun hc => ?_) (fun hc => ?_)
  · have h := h.1 hc
    refine lv_aload_n hx hb (dk DX12_opensBy 6 rfl) rfl (lv_at hl 0 rfl) ?_
    refine lv_dup hx hb (dk DX12_opensBy 7 rfl) rfl ?_
    refine gM X hP 18 (by decide) rfl lk143 (dk DX12_opensBy 8 rfl) ?_
    refine lv_iconst (v := 1) hx hb (dk DX12_opensBy 9 rfl) (by decide) ?_
    refine lv_iadd hx hb (dk DX12_opensBy 10 rfl) ?_
    refine lv_topi (fun v1 ev1 => ?_)
    have h := h v1 ev1
    refine pM_18 X hP hD hS lk143 (dk DX12_opensBy 11 rfl) (fun S2 eS2 H locs hP hD hS => ?_)
    have h := h S2 eS2
    refine lv_aload_n hx hb (dk DX12_opensBy 12 rfl) rfl (lv_at hl 0 rfl) ?_
    refine lv_iload_n hx hb (dk DX12_opensBy 13 rfl) rfl (lv_at hl 1 rfl) ?_
    refine cMv (As := [.int a0]) (rest := []) X (m_push (l := l) (dC := dC) (dI := dI) (q := q) (cI := cI) (cJ := cJ) (cZ := cZ) (sz := _) a0 S2 h) (cwV 1 X.2.2.2.2.1 (gwV 119 120 121 24 94 rfl rfl rfl rfl rfl) rfl rfl rfl q_push ⟨Nat.le_of_ble_eq_true rfl, Nat.le_of_ble_eq_true rfl⟩) hP hD hS rfl hl.1 rfl (Nat.le_of_ble_eq_true rfl) (dk DX12_opensBy 14 rfl) (fun S3 H locs h hP hD hS => ?_)
    refine lv_aload_n hx hb (dk DX12_opensBy 15 rfl) rfl (lv_at hl 0 rfl) ?_
    refine cMv (As := []) (rest := []) X (m_nextToken (l := l) (dC := dC) (dI := dI) (q := q) (cI := cI) (cJ := cJ) (cZ := cZ) (sz := _) S3 h) (cwV 0 X.2.2.2.2.1 (gwV 122 123 124 24 68 rfl rfl rfl rfl rfl) rfl rfl rfl q_nextToken ⟨Nat.le_of_ble_eq_true rfl, Nat.le_of_ble_eq_true rfl⟩) hP hD hS rfl hl.1 rfl (Nat.le_of_ble_eq_true rfl) (dk DX12_opensBy 16 rfl) (fun S4 H locs h hP hD hS => ?_)
    refine lv_iconst (v := 0) hx hb (dk DX12_opensBy 17 rfl) (by decide) ?_
    exact W.iret (v := 0) hx hb hr (fun t ht hW => ⟨⟨_, _, rfl, h, by rw [ht]; exact hP, va_K.moved hW.alike X.2.2.2.2.2.2.1, hD⟩, hS.F ht⟩) hS.2.2 (dk DX12_opensBy 18 rfl)
  · have h := h.2 hc
    refine lv_iconst (v := 3) hx hb (dk DX12_opensBy 4 rfl) (by decide) ?_
    exact W.iret (v := 3) hx hb hr (fun t ht hW => ⟨⟨_, _, rfl, h, by rw [ht]; exact hP, va_K.moved hW.alike X.2.2.2.2.2.2.1, hD⟩, hS.F ht⟩) hS.2.2 (dk DX12_opensBy 5 rfl)

def ww_isOf : List Cond := .code yX12_isOf cX12_isOf 2 (some .boolean) :: (WdM ++ wsX120)
theorem q_isOf : yX12_isOf.cls = RX12 ∧ yX12_isOf.cls ≠ "java/lang/invoke/MethodHandle" ∧ yX12_isOf.cls ≠ "java/lang/invoke/VarHandle" ∧ (parseMethodDescriptor yX12_isOf.desc).map (fun d => d.parameters.length) = some 1 := by decide +kernel
def VC_isOf (Post : Int32 → MS → Prop) (a0 : Int32) (S : MS) : Prop := ((¬ a0 = 0 → ((5 ≤ a0 → ((8 ≤ a0 → ((¬ a0 = 8 → ((¬ (S.1 20) = 2 → Post 0 S) ∧ ((S.1 20) = 2 → Post 1 S))) ∧ (a0 = 8 → ((¬ (S.1 20) = 3 → Post 0 S) ∧ ((S.1 20) = 3 → Post 1 S))))) ∧ (¬ 8 ≤ a0 → (((S.1 20) = 2 → Post 1 S) ∧ (¬ (S.1 20) = 2 → ((¬ (S.1 20) = 3 → Post 0 S) ∧ ((S.1 20) = 3 → Post 1 S))))))) ∧ (¬ 5 ≤ a0 → (((S.1 20) = 1 → Post 1 S) ∧ (¬ (S.1 20) = 1 → ((¬ (S.1 20) = 3 → Post 0 S) ∧ ((S.1 20) = 3 → Post 1 S))))))) ∧ (a0 = 0 → Post 1 S))
set_option maxHeartbeats 4000000 in
set_option maxRecDepth 100000 in
theorem m_isOf {l : Launch} {dC : Nat → ClassId} {dI : Nat → Nat → Nat} {q : Nat → Nat} {cI cJ cZ : ClassId} {sz : Nat} {Post : Int32 → MS → Prop} (a0 : Int32) (S : MS) (h : VC_isOf Post a0 S) : Met l yX12_isOf ww_isOf ({ frames := 0, cells := 0, slots := 0, locals := 0 } : Room) (va_Pc [.ref (q 0), .int a0] (preM dC dI q cI cJ cZ S sz)) (va_Qi Post (atM dC dI q cI cJ cZ (va_A (wM q cI cJ cZ S) sz)) (va_A (wM q cI cJ cZ S) sz)) 0 0 (va_A (wM q cI cJ cZ S) sz) := by
  refine oM (cc := cX12_isOf) (maxL := 2) (ret := (some .boolean)) (Qc := fun A => va_Qi Post (atM dC dI q cI cJ cZ A) A) (by decide) rfl (fun w h => List.mem_cons_of_mem _ (List.mem_append_right _ h)) rfl (Nat.le_of_ble_eq_true rfl) (fun p e s m below meth c A ls X hr hlocks hP hD hS hl => ?_)
  have hx := X.1
  have hb := X.2.1
  have hl : lv_has ls 2 [(0, .ref (q 0)), (1, .int a0)] := hl
  have lk218 := X.2.2.2.2.1 (.fieldLink RX12 218 "BreathOnLoanModel" "sort0" "I") (inW 136 rfl)
  dsimp only [VC_isOf] at h
  refine lv_iload_n hx hb (dk DX12_isOf 0 rfl) rfl (lv_at hl 1 rfl) ?_
  refine lv_if_ne (tgt := 6) hx hb (dk DX12_isOf 1 rfl) (by decide) (fun hc => ?_) (fun hc => ?_)
  · have h := h.1 hc
    refine lv_iload_n hx hb (dk DX12_isOf 4 rfl) rfl (lv_at hl 1 rfl) ?_
    refine lv_iconst (v := 5) hx hb (dk DX12_isOf 5 rfl) (by decide) ?_
    refine lv_icmp_ge (tgt := 33) hx hb (dk DX12_isOf 6 rfl) (by decide) (fun hc => ?_) (fun hc => ?_)
    · have h := h.1 hc
      refine lv_iload_n hx hb (dk DX12_isOf 19 rfl) rfl (lv_at hl 1 rfl) ?_
      refine lv_bipush (v := 8) hx hb (dk DX12_isOf 20 rfl) (by decide) ?_
      refine lv_icmp_ge (tgt := 61) hx hb (dk DX12_isOf 21 rfl) (by decide) (fun hc => ?_) (fun hc => ?_)
      · have h := h.1 hc
        refine lv_iload_n hx hb (dk DX12_isOf 34 rfl) rfl (lv_at hl 1 rfl) ?_
        refine lv_bipush (v := 8) hx hb (dk DX12_isOf 35 rfl) (by decide) ?_
        refine lv_icmp_ne (tgt := 83) hx hb (dk DX12_isOf 36 rfl) (by decide) (fun hc => ?_) (fun hc => ?_)
        · have h := h.1 hc
          refine lv_aload_n hx hb (dk DX12_isOf 45 rfl) rfl (lv_at hl 0 rfl) ?_
          refine gM X hP 20 (by decide) rfl lk218 (dk DX12_isOf 46 rfl) ?_
          refine lv_iconst (v := 2) hx hb (dk DX12_isOf 47 rfl) (by decide) ?_
          refine lv_icmp_ne (tgt := 95) hx hb (dk DX12_isOf 48 rfl) (by decide) (fun hc => ?_) (fun hc => ?_)
          · have h := h.1 hc
            refine lv_iconst (v := 0) hx hb (dk DX12_isOf 51 rfl) (by decide) ?_
            exact W.zret (v := 0) hx hb hr (by decide) (fun t ht hW => ⟨⟨_, _, rfl, h, by rw [ht]; exact hP, va_K.moved hW.alike X.2.2.2.2.2.2.1, hD⟩, hS.F ht⟩) hS.2.2 (dk DX12_isOf 52 rfl)
          · have h := h.2 hc
            refine lv_iconst (v := 1) hx hb (dk DX12_isOf 49 rfl) (by decide) ?_
            refine lv_goto (tgt := 96) hx hb (dk DX12_isOf 50 rfl) (by decide) ?_
            exact W.zret (v := 1) hx hb hr (by decide) (fun t ht hW => ⟨⟨_, _, rfl, h, by rw [ht]; exact hP, va_K.moved hW.alike X.2.2.2.2.2.2.1, hD⟩, hS.F ht⟩) hS.2.2 (dk DX12_isOf 52 rfl)
        · have h := h.2 hc
          refine lv_aload_n hx hb (dk DX12_isOf 37 rfl) rfl (lv_at hl 0 rfl) ?_
          refine gM X hP 20 (by decide) rfl lk218 (dk DX12_isOf 38 rfl) ?_
          refine lv_iconst (v := 3) hx hb (dk DX12_isOf 39 rfl) (by decide) ?_
          refine lv_icmp_ne (tgt := 79) hx hb (dk DX12_isOf 40 rfl) (by decide) (fun hc => ?_) (fun hc => ?_)
          · have h := h.1 hc
            refine lv_iconst (v := 0) hx hb (dk DX12_isOf 43 rfl) (by decide) ?_
            refine lv_goto (tgt := 96) hx hb (dk DX12_isOf 44 rfl) (by decide) ?_
            exact W.zret (v := 0) hx hb hr (by decide) (fun t ht hW => ⟨⟨_, _, rfl, h, by rw [ht]; exact hP, va_K.moved hW.alike X.2.2.2.2.2.2.1, hD⟩, hS.F ht⟩) hS.2.2 (dk DX12_isOf 52 rfl)
          · have h := h.2 hc
            refine lv_iconst (v := 1) hx hb (dk DX12_isOf 41 rfl) (by decide) ?_
            refine lv_goto (tgt := 96) hx hb (dk DX12_isOf 42 rfl) (by decide) ?_
            exact W.zret (v := 1) hx hb hr (by decide) (fun t ht hW => ⟨⟨_, _, rfl, h, by rw [ht]; exact hP, va_K.moved hW.alike X.2.2.2.2.2.2.1, hD⟩, hS.F ht⟩) hS.2.2 (dk DX12_isOf 52 rfl)
      · have h := h.2 hc
        refine lv_aload_n hx hb (dk DX12_isOf 22 rfl) rfl (lv_at hl 0 rfl) ?_
        refine gM X hP 20 (by decide) rfl lk218 (dk DX12_isOf 23 rfl) ?_
        refine lv_iconst (v := 2) hx hb (dk DX12_isOf 24 rfl) (by decide) ?_
        refine lv_icmp_eq (tgt := 55) hx hb (dk DX12_isOf 25 rfl) (by decide) (fun hc => ?_) (fun hc => ?_)
        · have h := h.1 hc
          refine lv_iconst (v := 1) hx hb (dk DX12_isOf 30 rfl) (by decide) ?_
          refine lv_goto (tgt := 60) hx hb (dk DX12_isOf 31 rfl) (by decide) ?_
          exact W.zret (v := 1) hx hb hr (by decide) (fun t ht hW => ⟨⟨_, _, rfl, h, by rw [ht]; exact hP, va_K.moved hW.alike X.2.2.2.2.2.2.1, hD⟩, hS.F ht⟩) hS.2.2 (dk DX12_isOf 33 rfl)
        · have h := h.2 hc
          refine lv_aload_n hx hb (dk DX12_isOf 26 rfl) rfl (lv_at hl 0 rfl) ?_
          refine gM X hP 20 (by decide) rfl lk218 (dk DX12_isOf 27 rfl) ?_
          refine lv_iconst (v := 3) hx hb (dk DX12_isOf 28 rfl) (by decide) ?_
          refine lv_icmp_ne (tgt := 59) hx hb (dk DX12_isOf 29 rfl) (by decide) (fun hc => ?_) (fun hc => ?_)
          · have h := h.1 hc
            refine lv_iconst (v := 0) hx hb (dk DX12_isOf 32 rfl) (by decide) ?_
            exact W.zret (v := 0) hx hb hr (by decide) (fun t ht hW => ⟨⟨_, _, rfl, h, by rw [ht]; exact hP, va_K.moved hW.alike X.2.2.2.2.2.2.1, hD⟩, hS.F ht⟩) hS.2.2 (dk DX12_isOf 33 rfl)
          · have h := h.2 hc
            refine lv_iconst (v := 1) hx hb (dk DX12_isOf 30 rfl) (by decide) ?_
            refine lv_goto (tgt := 60) hx hb (dk DX12_isOf 31 rfl) (by decide) ?_
            exact W.zret (v := 1) hx hb hr (by decide) (fun t ht hW => ⟨⟨_, _, rfl, h, by rw [ht]; exact hP, va_K.moved hW.alike X.2.2.2.2.2.2.1, hD⟩, hS.F ht⟩) hS.2.2 (dk DX12_isOf 33 rfl)
    · have h := h.2 hc
      refine lv_aload_n hx hb (dk DX12_isOf 7 rfl) rfl (lv_at hl 0 rfl) ?_
      refine gM X hP 20 (by decide) rfl lk218 (dk DX12_isOf 8 rfl) ?_
      refine lv_iconst (v := 1) hx hb (dk DX12_isOf 9 rfl) (by decide) ?_
      refine lv_icmp_eq (tgt := 27) hx hb (dk DX12_isOf 10 rfl) (by decide) (fun hc => ?_) (fun hc => ?_)
      · have h := h.1 hc
        refine lv_iconst (v := 1) hx hb (dk DX12_isOf 15 rfl) (by decide) ?_
        refine lv_goto (tgt := 32) hx hb (dk DX12_isOf 16 rfl) (by decide) ?_
        exact W.zret (v := 1) hx hb hr (by decide) (fun t ht hW => ⟨⟨_, _, rfl, h, by rw [ht]; exact hP, va_K.moved hW.alike X.2.2.2.2.2.2.1, hD⟩, hS.F ht⟩) hS.2.2 (dk DX12_isOf 18 rfl)
      · have h := h.2 hc
        refine lv_aload_n hx hb (dk DX12_isOf 11 rfl) rfl (lv_at hl 0 rfl) ?_
        refine gM X hP 20 (by decide) rfl lk218 (dk DX12_isOf 12 rfl) ?_
        refine lv_iconst (v := 3) hx hb (dk DX12_isOf 13 rfl) (by decide) ?_
        refine lv_icmp_ne (tgt := 31) hx hb (dk DX12_isOf 14 rfl) (by decide) (fun hc => ?_) (fun hc => ?_)
        · have h := h.1 hc
          refine lv_iconst (v := 0) hx hb (dk DX12_isOf 17 rfl) (by decide) ?_
          exact W.zret (v := 0) hx hb hr (by decide) (fun t ht hW => ⟨⟨_, _, rfl, h, by rw [ht]; exact hP, va_K.moved hW.alike X.2.2.2.2.2.2.1, hD⟩, hS.F ht⟩) hS.2.2 (dk DX12_isOf 18 rfl)
        · have h := h.2 hc
          refine lv_iconst (v := 1) hx hb (dk DX12_isOf 15 rfl) (by decide) ?_
          refine lv_goto (tgt := 32) hx hb (dk DX12_isOf 16 rfl) (by decide) ?_
          exact W.zret (v := 1) hx hb hr (by decide) (fun t ht hW => ⟨⟨_, _, rfl, h, by rw [ht]; exact hP, va_K.moved hW.alike X.2.2.2.2.2.2.1, hD⟩, hS.F ht⟩) hS.2.2 (dk DX12_isOf 18 rfl)
  · have h := h.2 hc
    refine lv_iconst (v := 1) hx hb (dk DX12_isOf 2 rfl) (by decide) ?_
    exact W.zret (v := 1) hx hb hr (by decide) (fun t ht hW => ⟨⟨_, _, rfl, h, by rw [ht]; exact hP, va_K.moved hW.alike X.2.2.2.2.2.2.1, hD⟩, hS.F ht⟩) hS.2.2 (dk DX12_isOf 3 rfl)

def ww_isQuarrels : List Cond := .code yX12_isQuarrels cX12_isQuarrels 1 (some .boolean) :: (WdM ++ wsX120)
theorem q_isQuarrels : yX12_isQuarrels.cls = RX12 ∧ yX12_isQuarrels.cls ≠ "java/lang/invoke/MethodHandle" ∧ yX12_isQuarrels.cls ≠ "java/lang/invoke/VarHandle" ∧ (parseMethodDescriptor yX12_isQuarrels.desc).map (fun d => d.parameters.length) = some 0 := by decide +kernel
def VC_isQuarrels (Post : Int32 → MS → Prop) (S : MS) : Prop := ((¬ ((S.1 7) - (S.1 8)) = 8 → Post 0 S) ∧ (((S.1 7) - (S.1 8)) = 8 → VC_byteAt (fun r2 S1 => ((¬ r2 = 113 → Post 0 S1) ∧ (r2 = 113 → VC_byteAt (fun r4 S3 => ((¬ r4 = 117 → Post 0 S3) ∧ (r4 = 117 → VC_byteAt (fun r6 S5 => ((¬ r6 = 97 → Post 0 S5) ∧ (r6 = 97 → VC_byteAt (fun r8 S7 => ((r8 = 114 → VC_byteAt (fun r10 S9 => ((¬ r10 = 114 → Post 0 S9) ∧ (r10 = 114 → VC_byteAt (fun r12 S11 => ((¬ r12 = 101 → Post 0 S11) ∧ (r12 = 101 → VC_byteAt (fun r14 S13 => ((¬ r14 = 108 → Post 0 S13) ∧ (r14 = 108 → VC_byteAt (fun r16 S15 => ((¬ r16 = 115 → Post 0 S15) ∧ (r16 = 115 → Post 1 S15))) ((S13.1 8) + 7) S13))) ((S11.1 8) + 6) S11))) ((S9.1 8) + 5) S9))) ((S7.1 8) + 4) S7) ∧ (¬ r8 = 114 → Post 0 S7))) ((S5.1 8) + 3) S5))) ((S3.1 8) + 2) S3))) ((S1.1 8) + 1) S1))) (S.1 8) S))
set_option maxHeartbeats 4000000 in
set_option maxRecDepth 100000 in
theorem m_isQuarrels {l : Launch} {dC : Nat → ClassId} {dI : Nat → Nat → Nat} {q : Nat → Nat} {cI cJ cZ : ClassId} {sz : Nat} {Post : Int32 → MS → Prop} (S : MS) (h : VC_isQuarrels Post S) : Met l yX12_isQuarrels ww_isQuarrels ({ frames := 1, cells := 0, slots := 0, locals := 21 } : Room) (va_Pc [.ref (q 0)] (preM dC dI q cI cJ cZ S sz)) (va_Qi Post (atM dC dI q cI cJ cZ (va_A (wM q cI cJ cZ S) sz)) (va_A (wM q cI cJ cZ S) sz)) 0 0 (va_A (wM q cI cJ cZ S) sz) := by
  refine oM (cc := cX12_isQuarrels) (maxL := 1) (ret := (some .boolean)) (Qc := fun A => va_Qi Post (atM dC dI q cI cJ cZ A) A) (by decide) rfl (fun w h => List.mem_cons_of_mem _ (List.mem_append_right _ h)) rfl (Nat.le_of_ble_eq_true rfl) (fun p e s m below meth c A ls X hr hlocks hP hD hS hl => ?_)
  have hx := X.1
  have hb := X.2.1
  have hl : lv_has ls 1 [(0, .ref (q 0))] := hl
  have lk93 := X.2.2.2.2.1 (.fieldLink RX12 93 "BreathOnLoanModel" "at" "I") (inW 69 rfl)
  have lk99 := X.2.2.2.2.1 (.fieldLink RX12 99 "BreathOnLoanModel" "place" "I") (inW 70 rfl)
  dsimp only [VC_isQuarrels] at h
  refine lv_aload_n hx hb (dk DX12_isQuarrels 0 rfl) rfl (lv_at hl 0 rfl) ?_
  refine gM X hP 7 (by decide) rfl lk93 (dk DX12_isQuarrels 1 rfl) ?_
  refine lv_aload_n hx hb (dk DX12_isQuarrels 2 rfl) rfl (lv_at hl 0 rfl) ?_
  refine gM X hP 8 (by decide) rfl lk99 (dk DX12_isQuarrels 3 rfl) ?_
  refine lv_isub hx hb (dk DX12_isQuarrels 4 rfl) ?_
  refine lv_bipush (v := 8) hx hb (dk DX12_isQuarrels 5 rfl) (by decide) ?_
  refine lv_icmp_ne (tgt := 72) hx hb (dk DX12_isQuarrels 6 rfl) (by decide) (fun hc => ?_) (fun hc => ?_)
  · have h := h.1 hc
    refine lv_iconst (v := 0) hx hb (dk DX12_isQuarrels 37 rfl) (by decide) ?_
    exact W.zret (v := 0) hx hb hr (by decide) (fun t ht hW => ⟨⟨_, _, rfl, h, by rw [ht]; exact hP, va_K.moved hW.alike X.2.2.2.2.2.2.1, hD⟩, hS.F ht⟩) hS.2.2 (dk DX12_isQuarrels 38 rfl)
  · have h := h.2 hc
    refine lv_aload_n hx hb (dk DX12_isQuarrels 7 rfl) rfl (lv_at hl 0 rfl) ?_
    refine lv_aload_n hx hb (dk DX12_isQuarrels 8 rfl) rfl (lv_at hl 0 rfl) ?_
    refine gM X hP 8 (by decide) rfl lk99 (dk DX12_isQuarrels 9 rfl) ?_
    refine cMi (As := [.int (S.1 8)]) (rest := []) X (m_byteAt (l := l) (dC := dC) (dI := dI) (q := q) (cI := cI) (cJ := cJ) (cZ := cZ) (sz := _) (S.1 8) S h) (cwV 1 X.2.2.2.2.1 (gwV 75 76 77 24 65 rfl rfl rfl rfl rfl) rfl rfl rfl q_byteAt ⟨Nat.le_of_ble_eq_true rfl, Nat.le_of_ble_eq_true rfl⟩) hP hD hS rfl hl.1 rfl (Nat.le_of_ble_eq_true rfl) (dk DX12_isQuarrels 10 rfl) (fun r2 S1 H locs h hP hD hS => ?_)
    refine lv_bipush (v := 113) hx hb (dk DX12_isQuarrels 11 rfl) (by decide) ?_
    refine lv_icmp_ne (tgt := 72) hx hb (dk DX12_isQuarrels 12 rfl) (by decide) (fun hc => ?_) (fun hc => ?_)
    · have h := h.1 hc
      refine lv_iconst (v := 0) hx hb (dk DX12_isQuarrels 37 rfl) (by decide) ?_
      exact W.zret (v := 0) hx hb hr (by decide) (fun t ht hW => ⟨⟨_, _, rfl, h, by rw [ht]; exact hP, va_K.moved hW.alike X.2.2.2.2.2.2.1, hD⟩, hS.F ht⟩) hS.2.2 (dk DX12_isQuarrels 38 rfl)
    · have h := h.2 hc
      refine lv_aload_n hx hb (dk DX12_isQuarrels 13 rfl) rfl (lv_at hl 0 rfl) ?_
      refine lv_aload_n hx hb (dk DX12_isQuarrels 14 rfl) rfl (lv_at hl 0 rfl) ?_
      refine gM X hP 8 (by decide) rfl lk99 (dk DX12_isQuarrels 15 rfl) ?_
      refine lv_iconst (v := 1) hx hb (dk DX12_isQuarrels 16 rfl) (by decide) ?_
      refine lv_iadd hx hb (dk DX12_isQuarrels 17 rfl) ?_
      refine cMi (As := [.int ((S1.1 8) + 1)]) (rest := []) X (m_byteAt (l := l) (dC := dC) (dI := dI) (q := q) (cI := cI) (cJ := cJ) (cZ := cZ) (sz := _) ((S1.1 8) + 1) S1 h) (cwV 1 X.2.2.2.2.1 (gwV 75 76 77 24 65 rfl rfl rfl rfl rfl) rfl rfl rfl q_byteAt ⟨Nat.le_of_ble_eq_true rfl, Nat.le_of_ble_eq_true rfl⟩) hP hD hS rfl hl.1 rfl (Nat.le_of_ble_eq_true rfl) (dk DX12_isQuarrels 18 rfl) (fun r4 S3 H locs h hP hD hS => ?_)
      refine lv_bipush (v := 117) hx hb (dk DX12_isQuarrels 19 rfl) (by decide) ?_
      refine lv_icmp_ne (tgt := 72) hx hb (dk DX12_isQuarrels 20 rfl) (by decide) (fun hc => ?_) (fun hc => ?_)
      · have h := h.1 hc
        refine lv_iconst (v := 0) hx hb (dk DX12_isQuarrels 37 rfl) (by decide) ?_
        exact W.zret (v := 0) hx hb hr (by decide) (fun t ht hW => ⟨⟨_, _, rfl, h, by rw [ht]; exact hP, va_K.moved hW.alike X.2.2.2.2.2.2.1, hD⟩, hS.F ht⟩) hS.2.2 (dk DX12_isQuarrels 38 rfl)
      · have h := h.2 hc
        refine lv_aload_n hx hb (dk DX12_isQuarrels 21 rfl) rfl (lv_at hl 0 rfl) ?_
        refine lv_aload_n hx hb (dk DX12_isQuarrels 22 rfl) rfl (lv_at hl 0 rfl) ?_
        refine gM X hP 8 (by decide) rfl lk99 (dk DX12_isQuarrels 23 rfl) ?_
        refine lv_iconst (v := 2) hx hb (dk DX12_isQuarrels 24 rfl) (by decide) ?_
        refine lv_iadd hx hb (dk DX12_isQuarrels 25 rfl) ?_
        refine cMi (As := [.int ((S3.1 8) + 2)]) (rest := []) X (m_byteAt (l := l) (dC := dC) (dI := dI) (q := q) (cI := cI) (cJ := cJ) (cZ := cZ) (sz := _) ((S3.1 8) + 2) S3 h) (cwV 1 X.2.2.2.2.1 (gwV 75 76 77 24 65 rfl rfl rfl rfl rfl) rfl rfl rfl q_byteAt ⟨Nat.le_of_ble_eq_true rfl, Nat.le_of_ble_eq_true rfl⟩) hP hD hS rfl hl.1 rfl (Nat.le_of_ble_eq_true rfl) (dk DX12_isQuarrels 26 rfl) (fun r6 S5 H locs h hP hD hS => ?_)
        refine lv_bipush (v := 97) hx hb (dk DX12_isQuarrels 27 rfl) (by decide) ?_
        refine lv_icmp_ne (tgt := 72) hx hb (dk DX12_isQuarrels 28 rfl) (by decide) (fun hc => ?_) (fun hc => ?_)
        · have h := h.1 hc
          refine lv_iconst (v := 0) hx hb (dk DX12_isQuarrels 37 rfl) (by decide) ?_
          exact W.zret (v := 0) hx hb hr (by decide) (fun t ht hW => ⟨⟨_, _, rfl, h, by rw [ht]; exact hP, va_K.moved hW.alike X.2.2.2.2.2.2.1, hD⟩, hS.F ht⟩) hS.2.2 (dk DX12_isQuarrels 38 rfl)
        · have h := h.2 hc
          refine lv_aload_n hx hb (dk DX12_isQuarrels 29 rfl) rfl (lv_at hl 0 rfl) ?_
          refine lv_aload_n hx hb (dk DX12_isQuarrels 30 rfl) rfl (lv_at hl 0 rfl) ?_
          refine gM X hP 8 (by decide) rfl lk99 (dk DX12_isQuarrels 31 rfl) ?_
          refine lv_iconst (v := 3) hx hb (dk DX12_isQuarrels 32 rfl) (by decide) ?_
          refine lv_iadd hx hb (dk DX12_isQuarrels 33 rfl) ?_
          refine cMi (As := [.int ((S5.1 8) + 3)]) (rest := []) X (m_byteAt (l := l) (dC := dC) (dI := dI) (q := q) (cI := cI) (cJ := cJ) (cZ := cZ) (sz := _) ((S5.1 8) + 3) S5 h) (cwV 1 X.2.2.2.2.1 (gwV 75 76 77 24 65 rfl rfl rfl rfl rfl) rfl rfl rfl q_byteAt ⟨Nat.le_of_ble_eq_true rfl, Nat.le_of_ble_eq_true rfl⟩) hP hD hS rfl hl.1 rfl (Nat.le_of_ble_eq_true rfl) (dk DX12_isQuarrels 34 rfl) (fun r8 S7 H locs h hP hD hS => ?_)
          refine lv_bipush (v := 114) hx hb (dk DX12_isQuarrels 35 rfl) (by decide) ?_
          refine lv_icmp_eq (tgt := 74) hx hb (dk DX12_isQuarrels 36 rfl) (by decide) (fun hc => ?_) (fun hc => ?_)
          · have h := h.1 hc
            refine lv_aload_n hx hb (dk DX12_isQuarrels 39 rfl) rfl (lv_at hl 0 rfl) ?_
            refine lv_aload_n hx hb (dk DX12_isQuarrels 40 rfl) rfl (lv_at hl 0 rfl) ?_
            refine gM X hP 8 (by decide) rfl lk99 (dk DX12_isQuarrels 41 rfl) ?_
            refine lv_iconst (v := 4) hx hb (dk DX12_isQuarrels 42 rfl) (by decide) ?_
            refine lv_iadd hx hb (dk DX12_isQuarrels 43 rfl) ?_
            refine cMi (As := [.int ((S7.1 8) + 4)]) (rest := []) X (m_byteAt (l := l) (dC := dC) (dI := dI) (q := q) (cI := cI) (cJ := cJ) (cZ := cZ) (sz := _) ((S7.1 8) + 4) S7 h) (cwV 1 X.2.2.2.2.1 (gwV 75 76 77 24 65 rfl rfl rfl rfl rfl) rfl rfl rfl q_byteAt ⟨Nat.le_of_ble_eq_true rfl, Nat.le_of_ble_eq_true rfl⟩) hP hD hS rfl hl.1 rfl (Nat.le_of_ble_eq_true rfl) (dk DX12_isQuarrels 44 rfl) (fun r10 S9 H locs h hP hD hS => ?_)
            refine lv_bipush (v := 114) hx hb (dk DX12_isQuarrels 45 rfl) (by decide) ?_
            refine lv_icmp_ne (tgt := 140) hx hb (dk DX12_isQuarrels 46 rfl) (by decide) (fun hc => ?_) (fun hc => ?_)
            · have h := h.1 hc
              refine lv_iconst (v := 0) hx hb (dk DX12_isQuarrels 73 rfl) (by decide) ?_
              exact W.zret (v := 0) hx hb hr (by decide) (fun t ht hW => ⟨⟨_, _, rfl, h, by rw [ht]; exact hP, va_K.moved hW.alike X.2.2.2.2.2.2.1, hD⟩, hS.F ht⟩) hS.2.2 (dk DX12_isQuarrels 74 rfl)
            · have h := h.2 hc
              refine lv_aload_n hx hb (dk DX12_isQuarrels 47 rfl) rfl (lv_at hl 0 rfl) ?_
              refine lv_aload_n hx hb (dk DX12_isQuarrels 48 rfl) rfl (lv_at hl 0 rfl) ?_
              refine gM X hP 8 (by decide) rfl lk99 (dk DX12_isQuarrels 49 rfl) ?_
              refine lv_iconst (v := 5) hx hb (dk DX12_isQuarrels 50 rfl) (by decide) ?_
              refine lv_iadd hx hb (dk DX12_isQuarrels 51 rfl) ?_
              refine cMi (As := [.int ((S9.1 8) + 5)]) (rest := []) X (m_byteAt (l := l) (dC := dC) (dI := dI) (q := q) (cI := cI) (cJ := cJ) (cZ := cZ) (sz := _) ((S9.1 8) + 5) S9 h) (cwV 1 X.2.2.2.2.1 (gwV 75 76 77 24 65 rfl rfl rfl rfl rfl) rfl rfl rfl q_byteAt ⟨Nat.le_of_ble_eq_true rfl, Nat.le_of_ble_eq_true rfl⟩) hP hD hS rfl hl.1 rfl (Nat.le_of_ble_eq_true rfl) (dk DX12_isQuarrels 52 rfl) (fun r12 S11 H locs h hP hD hS => ?_)
              refine lv_bipush (v := 101) hx hb (dk DX12_isQuarrels 53 rfl) (by decide) ?_
              refine lv_icmp_ne (tgt := 140) hx hb (dk DX12_isQuarrels 54 rfl) (by decide) (fun hc => ?_) (fun hc => ?_)
              · have h := h.1 hc
                refine lv_iconst (v := 0) hx hb (dk DX12_isQuarrels 73 rfl) (by decide) ?_
                exact W.zret (v := 0) hx hb hr (by decide) (fun t ht hW => ⟨⟨_, _, rfl, h, by rw [ht]; exact hP, va_K.moved hW.alike X.2.2.2.2.2.2.1, hD⟩, hS.F ht⟩) hS.2.2 (dk DX12_isQuarrels 74 rfl)
              · have h := h.2 hc
                refine lv_aload_n hx hb (dk DX12_isQuarrels 55 rfl) rfl (lv_at hl 0 rfl) ?_
                refine lv_aload_n hx hb (dk DX12_isQuarrels 56 rfl) rfl (lv_at hl 0 rfl) ?_
                refine gM X hP 8 (by decide) rfl lk99 (dk DX12_isQuarrels 57 rfl) ?_
                refine lv_bipush (v := 6) hx hb (dk DX12_isQuarrels 58 rfl) (by decide) ?_
                refine lv_iadd hx hb (dk DX12_isQuarrels 59 rfl) ?_
                refine cMi (As := [.int ((S11.1 8) + 6)]) (rest := []) X (m_byteAt (l := l) (dC := dC) (dI := dI) (q := q) (cI := cI) (cJ := cJ) (cZ := cZ) (sz := _) ((S11.1 8) + 6) S11 h) (cwV 1 X.2.2.2.2.1 (gwV 75 76 77 24 65 rfl rfl rfl rfl rfl) rfl rfl rfl q_byteAt ⟨Nat.le_of_ble_eq_true rfl, Nat.le_of_ble_eq_true rfl⟩) hP hD hS rfl hl.1 rfl (Nat.le_of_ble_eq_true rfl) (dk DX12_isQuarrels 60 rfl) (fun r14 S13 H locs h hP hD hS => ?_)
                refine lv_bipush (v := 108) hx hb (dk DX12_isQuarrels 61 rfl) (by decide) ?_
                refine lv_icmp_ne (tgt := 140) hx hb (dk DX12_isQuarrels 62 rfl) (by decide) (fun hc => ?_) (fun hc => ?_)
                · have h := h.1 hc
                  refine lv_iconst (v := 0) hx hb (dk DX12_isQuarrels 73 rfl) (by decide) ?_
                  exact W.zret (v := 0) hx hb hr (by decide) (fun t ht hW => ⟨⟨_, _, rfl, h, by rw [ht]; exact hP, va_K.moved hW.alike X.2.2.2.2.2.2.1, hD⟩, hS.F ht⟩) hS.2.2 (dk DX12_isQuarrels 74 rfl)
                · have h := h.2 hc
                  refine lv_aload_n hx hb (dk DX12_isQuarrels 63 rfl) rfl (lv_at hl 0 rfl) ?_
                  refine lv_aload_n hx hb (dk DX12_isQuarrels 64 rfl) rfl (lv_at hl 0 rfl) ?_
                  refine gM X hP 8 (by decide) rfl lk99 (dk DX12_isQuarrels 65 rfl) ?_
                  refine lv_bipush (v := 7) hx hb (dk DX12_isQuarrels 66 rfl) (by decide) ?_
                  refine lv_iadd hx hb (dk DX12_isQuarrels 67 rfl) ?_
                  refine cMi (As := [.int ((S13.1 8) + 7)]) (rest := []) X (m_byteAt (l := l) (dC := dC) (dI := dI) (q := q) (cI := cI) (cJ := cJ) (cZ := cZ) (sz := _) ((S13.1 8) + 7) S13 h) (cwV 1 X.2.2.2.2.1 (gwV 75 76 77 24 65 rfl rfl rfl rfl rfl) rfl rfl rfl q_byteAt ⟨Nat.le_of_ble_eq_true rfl, Nat.le_of_ble_eq_true rfl⟩) hP hD hS rfl hl.1 rfl (Nat.le_of_ble_eq_true rfl) (dk DX12_isQuarrels 68 rfl) (fun r16 S15 H locs h hP hD hS => ?_)
                  refine lv_bipush (v := 115) hx hb (dk DX12_isQuarrels 69 rfl) (by decide) ?_
                  refine lv_icmp_ne (tgt := 140) hx hb (dk DX12_isQuarrels 70 rfl) (by decide) (fun hc => ?_) (fun hc => ?_)
                  · have h := h.1 hc
                    refine lv_iconst (v := 0) hx hb (dk DX12_isQuarrels 73 rfl) (by decide) ?_
                    exact W.zret (v := 0) hx hb hr (by decide) (fun t ht hW => ⟨⟨_, _, rfl, h, by rw [ht]; exact hP, va_K.moved hW.alike X.2.2.2.2.2.2.1, hD⟩, hS.F ht⟩) hS.2.2 (dk DX12_isQuarrels 74 rfl)
                  · have h := h.2 hc
                    refine lv_iconst (v := 1) hx hb (dk DX12_isQuarrels 71 rfl) (by decide) ?_
                    refine lv_goto (tgt := 141) hx hb (dk DX12_isQuarrels 72 rfl) (by decide) ?_
                    exact W.zret (v := 1) hx hb hr (by decide) (fun t ht hW => ⟨⟨_, _, rfl, h, by rw [ht]; exact hP, va_K.moved hW.alike X.2.2.2.2.2.2.1, hD⟩, hS.F ht⟩) hS.2.2 (dk DX12_isQuarrels 74 rfl)
          · have h := h.2 hc
            refine lv_iconst (v := 0) hx hb (dk DX12_isQuarrels 37 rfl) (by decide) ?_
            exact W.zret (v := 0) hx hb hr (by decide) (fun t ht hW => ⟨⟨_, _, rfl, h, by rw [ht]; exact hP, va_K.moved hW.alike X.2.2.2.2.2.2.1, hD⟩, hS.F ht⟩) hS.2.2 (dk DX12_isQuarrels 38 rfl)

def ww_nameOf : List Cond := .code yX12_nameOf cX12_nameOf 1 (some .int) :: (WdM ++ wsX120)
theorem q_nameOf : yX12_nameOf.cls = RX12 ∧ yX12_nameOf.cls ≠ "java/lang/invoke/MethodHandle" ∧ yX12_nameOf.cls ≠ "java/lang/invoke/VarHandle" ∧ (parseMethodDescriptor yX12_nameOf.desc).map (fun d => d.parameters.length) = some 0 := by decide +kernel
def VC_nameOf (Post : Int32 → MS → Prop) (S : MS) : Prop := (((S.1 9) = 2 → VC_w4 (fun r1 => ((¬ (lg_cmp (S.2.1) r1) = 0 → VC_w6 (fun r2 => ((¬ (lg_cmp (S.2.1) r2) = 0 → VC_w5 (fun r3 => ((¬ (lg_cmp (S.2.1) r3) = 0 → VC_w5 (fun r4 => ((¬ (lg_cmp (S.2.1) r4) = 0 → VC_w5 (fun r5 => ((¬ (lg_cmp (S.2.1) r5) = 0 → VC_w4 (fun r6 => ((¬ (lg_cmp (S.2.1) r6) = 0 → VC_w4 (fun r7 => ((¬ (lg_cmp (S.2.1) r7) = 0 → VC_w5 (fun r8 => ((¬ (lg_cmp (S.2.1) r8) = 0 → VC_w3 (fun r9 => VC_w4 (fun r10 => ((¬ (lg_cmp (S.2.1) ((r9 <<< ((32 : Int32).toInt64 &&& 63)) ||| r10)) = 0 → VC_isQuarrels (fun r12 S11 => ((r12 = 0 → VC_w4 (fun r13 => ((¬ (lg_cmp (S11.2.1) r13) = 0 → Post (-1) S11) ∧ ((lg_cmp (S11.2.1) r13) = 0 → Post 10 S11))) 109 97 110 121) ∧ (¬ r12 = 0 → Post 9 S11))) S) ∧ ((lg_cmp (S.2.1) ((r9 <<< ((32 : Int32).toInt64 &&& 63)) ||| r10)) = 0 → Post 8 S))) 97 116 104 115) 98 114 101) ∧ ((lg_cmp (S.2.1) r8) = 0 → Post 7 S))) 119 111 114 116 104) ∧ ((lg_cmp (S.2.1) r7) = 0 → Post 6 S))) 119 97 110 116) ∧ ((lg_cmp (S.2.1) r6) = 0 → Post 5 S))) 107 105 110 100) ∧ ((lg_cmp (S.2.1) r5) = 0 → Post 4 S))) 98 101 97 100 115) ∧ ((lg_cmp (S.2.1) r4) = 0 → Post 3 S))) 118 111 105 99 101) ∧ ((lg_cmp (S.2.1) r3) = 0 → Post 2 S))) 108 117 110 103 115) ∧ ((lg_cmp (S.2.1) r2) = 0 → Post 1 S))) 98 108 111 119 101 114) ∧ ((lg_cmp (S.2.1) r1) = 0 → Post 0 S))) 104 111 117 114) ∧ (¬ (S.1 9) = 2 → Post (-1) S))
set_option maxHeartbeats 4000000 in
set_option maxRecDepth 100000 in
theorem m_nameOf {l : Launch} {dC : Nat → ClassId} {dI : Nat → Nat → Nat} {q : Nat → Nat} {cI cJ cZ : ClassId} {sz : Nat} {Post : Int32 → MS → Prop} (S : MS) (h : VC_nameOf Post S) : Met l yX12_nameOf ww_nameOf ({ frames := 3, cells := 0, slots := 0, locals := 71 } : Room) (va_Pc [.ref (q 0)] (preM dC dI q cI cJ cZ S sz)) (va_Qi Post (atM dC dI q cI cJ cZ (va_A (wM q cI cJ cZ S) sz)) (va_A (wM q cI cJ cZ S) sz)) 0 0 (va_A (wM q cI cJ cZ S) sz) := by
  refine oM (cc := cX12_nameOf) (maxL := 1) (ret := (some .int)) (Qc := fun A => va_Qi Post (atM dC dI q cI cJ cZ A) A) (by decide) rfl (fun w h => List.mem_cons_of_mem _ (List.mem_append_right _ h)) rfl (Nat.le_of_ble_eq_true rfl) (fun p e s m below meth c A ls X hr hlocks hP hD hS hl => ?_)
  have hx := X.1
  have hb := X.2.1
  have hl : lv_has ls 1 [(0, .ref (q 0))] := hl
  have lk102 := X.2.2.2.2.1 (.fieldLink RX12 102 "BreathOnLoanModel" "token" "I") (inW 71 rfl)
  have lk115 := X.2.2.2.2.1 (.fieldLink RX12 115 "BreathOnLoanModel" "word" "J") (inW 74 rfl)
  dsimp only [VC_nameOf] at h
  refine lv_aload_n hx hb (dk DX12_nameOf 0 rfl) rfl (lv_at hl 0 rfl) ?_
  refine gM X hP 9 (by decide) rfl lk102 (dk DX12_nameOf 1 rfl) ?_
  refine lv_iconst (v := 2) hx hb (dk DX12_nameOf 2 rfl) (by decide) ?_
  refine lv_icmp_eq (tgt := 10) hx hb (dk DX12_nameOf 3 rfl) (by decide) (fun hc => ?_) (fun hc => ?_)
  · have h := h.1 hc
    refine lv_aload_n hx hb (dk DX12_nameOf 6 rfl) rfl (lv_at hl 0 rfl) ?_
    refine gM X hP 11 (by decide) rfl lk115 (dk DX12_nameOf 7 rfl) ?_
    refine lv_bipush (v := 104) hx hb (dk DX12_nameOf 8 rfl) (by decide) ?_
    refine lv_bipush (v := 111) hx hb (dk DX12_nameOf 9 rfl) (by decide) ?_
    refine lv_bipush (v := 117) hx hb (dk DX12_nameOf 10 rfl) (by decide) ?_
    refine lv_bipush (v := 114) hx hb (dk DX12_nameOf 11 rfl) (by decide) ?_
    refine cSl (As := [.int 104, .int 111, .int 117, .int 114]) (rest := [.long (S.2.1)]) ⟨X.1, X.2.1, X.2.2.1, X.2.2.2.1, X.2.2.2.2.1⟩ (m_w4 (l := l) 104 111 117 114 h) (va_cwS 4 X.2.2.2.2.1 (gwS 127 128 24 86 rfl rfl rfl rfl) rfl rfl rfl q_w4 ⟨Nat.le_of_ble_eq_true rfl, Nat.le_of_ble_eq_true rfl⟩) rfl hl.1 rfl (Nat.le_of_ble_eq_true rfl) (dk DX12_nameOf 12 rfl) (fun r1 h => ?_)
    refine W.lcmp hx hb (dk DX12_nameOf 13 rfl) ?_
    refine lv_if_ne (tgt := 31) hx hb (dk DX12_nameOf 14 rfl) (by decide) (fun hc => ?_) (fun hc => ?_)
    · have h := h.1 hc
      refine lv_aload_n hx hb (dk DX12_nameOf 17 rfl) rfl (lv_at hl 0 rfl) ?_
      refine gM X hP 11 (by decide) rfl lk115 (dk DX12_nameOf 18 rfl) ?_
      refine lv_bipush (v := 98) hx hb (dk DX12_nameOf 19 rfl) (by decide) ?_
      refine lv_bipush (v := 108) hx hb (dk DX12_nameOf 20 rfl) (by decide) ?_
      refine lv_bipush (v := 111) hx hb (dk DX12_nameOf 21 rfl) (by decide) ?_
      refine lv_bipush (v := 119) hx hb (dk DX12_nameOf 22 rfl) (by decide) ?_
      refine lv_bipush (v := 101) hx hb (dk DX12_nameOf 23 rfl) (by decide) ?_
      refine lv_bipush (v := 114) hx hb (dk DX12_nameOf 24 rfl) (by decide) ?_
      refine cSl (As := [.int 98, .int 108, .int 111, .int 119, .int 101, .int 114]) (rest := [.long (S.2.1)]) ⟨X.1, X.2.1, X.2.2.1, X.2.2.2.1, X.2.2.2.2.1⟩ (m_w6 (l := l) 98 108 111 119 101 114 h) (va_cwS 6 X.2.2.2.2.1 (gwS 129 130 24 87 rfl rfl rfl rfl) rfl rfl rfl q_w6 ⟨Nat.le_of_ble_eq_true rfl, Nat.le_of_ble_eq_true rfl⟩) rfl hl.1 rfl (Nat.le_of_ble_eq_true rfl) (dk DX12_nameOf 25 rfl) (fun r2 h => ?_)
      refine W.lcmp hx hb (dk DX12_nameOf 26 rfl) ?_
      refine lv_if_ne (tgt := 56) hx hb (dk DX12_nameOf 27 rfl) (by decide) (fun hc => ?_) (fun hc => ?_)
      · have h := h.1 hc
        refine lv_aload_n hx hb (dk DX12_nameOf 30 rfl) rfl (lv_at hl 0 rfl) ?_
        refine gM X hP 11 (by decide) rfl lk115 (dk DX12_nameOf 31 rfl) ?_
        refine lv_bipush (v := 108) hx hb (dk DX12_nameOf 32 rfl) (by decide) ?_
        refine lv_bipush (v := 117) hx hb (dk DX12_nameOf 33 rfl) (by decide) ?_
        refine lv_bipush (v := 110) hx hb (dk DX12_nameOf 34 rfl) (by decide) ?_
        refine lv_bipush (v := 103) hx hb (dk DX12_nameOf 35 rfl) (by decide) ?_
        refine lv_bipush (v := 115) hx hb (dk DX12_nameOf 36 rfl) (by decide) ?_
        refine cSl (As := [.int 108, .int 117, .int 110, .int 103, .int 115]) (rest := [.long (S.2.1)]) ⟨X.1, X.2.1, X.2.2.1, X.2.2.2.1, X.2.2.2.2.1⟩ (m_w5 (l := l) 108 117 110 103 115 h) (va_cwS 5 X.2.2.2.2.1 (gwS 88 89 24 83 rfl rfl rfl rfl) rfl rfl rfl q_w5 ⟨Nat.le_of_ble_eq_true rfl, Nat.le_of_ble_eq_true rfl⟩) rfl hl.1 rfl (Nat.le_of_ble_eq_true rfl) (dk DX12_nameOf 37 rfl) (fun r3 h => ?_)
        refine W.lcmp hx hb (dk DX12_nameOf 38 rfl) ?_
        refine lv_if_ne (tgt := 79) hx hb (dk DX12_nameOf 39 rfl) (by decide) (fun hc => ?_) (fun hc => ?_)
        · have h := h.1 hc
          refine lv_aload_n hx hb (dk DX12_nameOf 42 rfl) rfl (lv_at hl 0 rfl) ?_
          refine gM X hP 11 (by decide) rfl lk115 (dk DX12_nameOf 43 rfl) ?_
          refine lv_bipush (v := 118) hx hb (dk DX12_nameOf 44 rfl) (by decide) ?_
          refine lv_bipush (v := 111) hx hb (dk DX12_nameOf 45 rfl) (by decide) ?_
          refine lv_bipush (v := 105) hx hb (dk DX12_nameOf 46 rfl) (by decide) ?_
          refine lv_bipush (v := 99) hx hb (dk DX12_nameOf 47 rfl) (by decide) ?_
          refine lv_bipush (v := 101) hx hb (dk DX12_nameOf 48 rfl) (by decide) ?_
          refine cSl (As := [.int 118, .int 111, .int 105, .int 99, .int 101]) (rest := [.long (S.2.1)]) ⟨X.1, X.2.1, X.2.2.1, X.2.2.2.1, X.2.2.2.2.1⟩ (m_w5 (l := l) 118 111 105 99 101 h) (va_cwS 5 X.2.2.2.2.1 (gwS 88 89 24 83 rfl rfl rfl rfl) rfl rfl rfl q_w5 ⟨Nat.le_of_ble_eq_true rfl, Nat.le_of_ble_eq_true rfl⟩) rfl hl.1 rfl (Nat.le_of_ble_eq_true rfl) (dk DX12_nameOf 49 rfl) (fun r4 h => ?_)
          refine W.lcmp hx hb (dk DX12_nameOf 50 rfl) ?_
          refine lv_if_ne (tgt := 102) hx hb (dk DX12_nameOf 51 rfl) (by decide) (fun hc => ?_) (fun hc => ?_)
          · have h := h.1 hc
            refine lv_aload_n hx hb (dk DX12_nameOf 54 rfl) rfl (lv_at hl 0 rfl) ?_
            refine gM X hP 11 (by decide) rfl lk115 (dk DX12_nameOf 55 rfl) ?_
            refine lv_bipush (v := 98) hx hb (dk DX12_nameOf 56 rfl) (by decide) ?_
            refine lv_bipush (v := 101) hx hb (dk DX12_nameOf 57 rfl) (by decide) ?_
            refine lv_bipush (v := 97) hx hb (dk DX12_nameOf 58 rfl) (by decide) ?_
            refine lv_bipush (v := 100) hx hb (dk DX12_nameOf 59 rfl) (by decide) ?_
            refine lv_bipush (v := 115) hx hb (dk DX12_nameOf 60 rfl) (by decide) ?_
            refine cSl (As := [.int 98, .int 101, .int 97, .int 100, .int 115]) (rest := [.long (S.2.1)]) ⟨X.1, X.2.1, X.2.2.1, X.2.2.2.1, X.2.2.2.2.1⟩ (m_w5 (l := l) 98 101 97 100 115 h) (va_cwS 5 X.2.2.2.2.1 (gwS 88 89 24 83 rfl rfl rfl rfl) rfl rfl rfl q_w5 ⟨Nat.le_of_ble_eq_true rfl, Nat.le_of_ble_eq_true rfl⟩) rfl hl.1 rfl (Nat.le_of_ble_eq_true rfl) (dk DX12_nameOf 61 rfl) (fun r5 h => ?_)
            refine W.lcmp hx hb (dk DX12_nameOf 62 rfl) ?_
            refine lv_if_ne (tgt := 125) hx hb (dk DX12_nameOf 63 rfl) (by decide) (fun hc => ?_) (fun hc => ?_)
            · have h := h.1 hc
              refine lv_aload_n hx hb (dk DX12_nameOf 66 rfl) rfl (lv_at hl 0 rfl) ?_
              refine gM X hP 11 (by decide) rfl lk115 (dk DX12_nameOf 67 rfl) ?_
              refine lv_bipush (v := 107) hx hb (dk DX12_nameOf 68 rfl) (by decide) ?_
              refine lv_bipush (v := 105) hx hb (dk DX12_nameOf 69 rfl) (by decide) ?_
              refine lv_bipush (v := 110) hx hb (dk DX12_nameOf 70 rfl) (by decide) ?_
              refine lv_bipush (v := 100) hx hb (dk DX12_nameOf 71 rfl) (by decide) ?_
              refine cSl (As := [.int 107, .int 105, .int 110, .int 100]) (rest := [.long (S.2.1)]) ⟨X.1, X.2.1, X.2.2.1, X.2.2.2.1, X.2.2.2.2.1⟩ (m_w4 (l := l) 107 105 110 100 h) (va_cwS 4 X.2.2.2.2.1 (gwS 127 128 24 86 rfl rfl rfl rfl) rfl rfl rfl q_w4 ⟨Nat.le_of_ble_eq_true rfl, Nat.le_of_ble_eq_true rfl⟩) rfl hl.1 rfl (Nat.le_of_ble_eq_true rfl) (dk DX12_nameOf 72 rfl) (fun r6 h => ?_)
              refine W.lcmp hx hb (dk DX12_nameOf 73 rfl) ?_
              refine lv_if_ne (tgt := 146) hx hb (dk DX12_nameOf 74 rfl) (by decide) (fun hc => ?_) (fun hc => ?_)
              · have h := h.1 hc
                refine lv_aload_n hx hb (dk DX12_nameOf 77 rfl) rfl (lv_at hl 0 rfl) ?_
                refine gM X hP 11 (by decide) rfl lk115 (dk DX12_nameOf 78 rfl) ?_
                refine lv_bipush (v := 119) hx hb (dk DX12_nameOf 79 rfl) (by decide) ?_
                refine lv_bipush (v := 97) hx hb (dk DX12_nameOf 80 rfl) (by decide) ?_
                refine lv_bipush (v := 110) hx hb (dk DX12_nameOf 81 rfl) (by decide) ?_
                refine lv_bipush (v := 116) hx hb (dk DX12_nameOf 82 rfl) (by decide) ?_
                refine cSl (As := [.int 119, .int 97, .int 110, .int 116]) (rest := [.long (S.2.1)]) ⟨X.1, X.2.1, X.2.2.1, X.2.2.2.1, X.2.2.2.2.1⟩ (m_w4 (l := l) 119 97 110 116 h) (va_cwS 4 X.2.2.2.2.1 (gwS 127 128 24 86 rfl rfl rfl rfl) rfl rfl rfl q_w4 ⟨Nat.le_of_ble_eq_true rfl, Nat.le_of_ble_eq_true rfl⟩) rfl hl.1 rfl (Nat.le_of_ble_eq_true rfl) (dk DX12_nameOf 83 rfl) (fun r7 h => ?_)
                refine W.lcmp hx hb (dk DX12_nameOf 84 rfl) ?_
                refine lv_if_ne (tgt := 168) hx hb (dk DX12_nameOf 85 rfl) (by decide) (fun hc => ?_) (fun hc => ?_)
                · have h := h.1 hc
                  refine lv_aload_n hx hb (dk DX12_nameOf 88 rfl) rfl (lv_at hl 0 rfl) ?_
                  refine gM X hP 11 (by decide) rfl lk115 (dk DX12_nameOf 89 rfl) ?_
                  refine lv_bipush (v := 119) hx hb (dk DX12_nameOf 90 rfl) (by decide) ?_
                  refine lv_bipush (v := 111) hx hb (dk DX12_nameOf 91 rfl) (by decide) ?_
                  refine lv_bipush (v := 114) hx hb (dk DX12_nameOf 92 rfl) (by decide) ?_
                  refine lv_bipush (v := 116) hx hb (dk DX12_nameOf 93 rfl) (by decide) ?_
                  refine lv_bipush (v := 104) hx hb (dk DX12_nameOf 94 rfl) (by decide) ?_
                  refine cSl (As := [.int 119, .int 111, .int 114, .int 116, .int 104]) (rest := [.long (S.2.1)]) ⟨X.1, X.2.1, X.2.2.1, X.2.2.2.1, X.2.2.2.2.1⟩ (m_w5 (l := l) 119 111 114 116 104 h) (va_cwS 5 X.2.2.2.2.1 (gwS 88 89 24 83 rfl rfl rfl rfl) rfl rfl rfl q_w5 ⟨Nat.le_of_ble_eq_true rfl, Nat.le_of_ble_eq_true rfl⟩) rfl hl.1 rfl (Nat.le_of_ble_eq_true rfl) (dk DX12_nameOf 95 rfl) (fun r8 h => ?_)
                  refine W.lcmp hx hb (dk DX12_nameOf 96 rfl) ?_
                  refine lv_if_ne (tgt := 192) hx hb (dk DX12_nameOf 97 rfl) (by decide) (fun hc => ?_) (fun hc => ?_)
                  · have h := h.1 hc
                    refine lv_aload_n hx hb (dk DX12_nameOf 100 rfl) rfl (lv_at hl 0 rfl) ?_
                    refine gM X hP 11 (by decide) rfl lk115 (dk DX12_nameOf 101 rfl) ?_
                    refine lv_bipush (v := 98) hx hb (dk DX12_nameOf 102 rfl) (by decide) ?_
                    refine lv_bipush (v := 114) hx hb (dk DX12_nameOf 103 rfl) (by decide) ?_
                    refine lv_bipush (v := 101) hx hb (dk DX12_nameOf 104 rfl) (by decide) ?_
                    refine cSl (As := [.int 98, .int 114, .int 101]) (rest := [.long (S.2.1)]) ⟨X.1, X.2.1, X.2.2.1, X.2.2.2.1, X.2.2.2.2.1⟩ (m_w3 (l := l) 98 114 101 h) (va_cwS 3 X.2.2.2.2.1 (gwS 84 85 24 82 rfl rfl rfl rfl) rfl rfl rfl q_w3 ⟨Nat.le_of_ble_eq_true rfl, Nat.le_of_ble_eq_true rfl⟩) rfl hl.1 rfl (Nat.le_of_ble_eq_true rfl) (dk DX12_nameOf 105 rfl) (fun r9 h => ?_)
                    refine lv_bipush (v := 32) hx hb (dk DX12_nameOf 106 rfl) (by decide) ?_
                    refine lv_lshl hx hb (dk DX12_nameOf 107 rfl) rfl ?_
                    refine lv_bipush (v := 97) hx hb (dk DX12_nameOf 108 rfl) (by decide) ?_
                    refine lv_bipush (v := 116) hx hb (dk DX12_nameOf 109 rfl) (by decide) ?_
                    refine lv_bipush (v := 104) hx hb (dk DX12_nameOf 110 rfl) (by decide) ?_
                    refine lv_bipush (v := 115) hx hb (dk DX12_nameOf 111 rfl) (by decide) ?_
                    refine cSl (As := [.int 97, .int 116, .int 104, .int 115]) (rest := [.long (r9 <<< ((32 : Int32).toInt64 &&& 63)), .long (S.2.1)]) ⟨X.1, X.2.1, X.2.2.1, X.2.2.2.1, X.2.2.2.2.1⟩ (m_w4 (l := l) 97 116 104 115 h) (va_cwS 4 X.2.2.2.2.1 (gwS 127 128 24 86 rfl rfl rfl rfl) rfl rfl rfl q_w4 ⟨Nat.le_of_ble_eq_true rfl, Nat.le_of_ble_eq_true rfl⟩) rfl hl.1 rfl (Nat.le_of_ble_eq_true rfl) (dk DX12_nameOf 112 rfl) (fun r10 h => ?_)
                    refine lv_lor hx hb (dk DX12_nameOf 113 rfl) ?_
                    refine W.lcmp hx hb (dk DX12_nameOf 114 rfl) ?_
                    refine lv_if_ne (tgt := 227) hx hb (dk DX12_nameOf 115 rfl) (by decide) (fun hc => ?_) (fun hc => ?_)
                    · have h := h.1 hc
                      refine lv_aload_n hx hb (dk DX12_nameOf 118 rfl) rfl (lv_at hl 0 rfl) ?_
                      refine cMi (As := []) (rest := []) X (m_isQuarrels (l := l) (dC := dC) (dI := dI) (q := q) (cI := cI) (cJ := cJ) (cZ := cZ) (sz := _) S h) (cwV 0 X.2.2.2.2.1 (gwV 131 132 133 24 126 rfl rfl rfl rfl rfl) rfl rfl rfl q_isQuarrels ⟨Nat.le_of_ble_eq_true rfl, Nat.le_of_ble_eq_true rfl⟩) hP hD hS rfl hl.1 rfl (Nat.le_of_ble_eq_true rfl) (dk DX12_nameOf 119 rfl) (fun r12 S11 H locs h hP hD hS => ?_)
                      refine lv_if_eq (tgt := 239) hx hb (dk DX12_nameOf 120 rfl) (by decide) (fun hc => ?_) (fun hc => ?_)
                      · have h := h.1 hc
                        refine lv_aload_n hx hb (dk DX12_nameOf 123 rfl) rfl (lv_at hl 0 rfl) ?_
                        refine gM X hP 11 (by decide) rfl lk115 (dk DX12_nameOf 124 rfl) ?_
                        refine lv_bipush (v := 109) hx hb (dk DX12_nameOf 125 rfl) (by decide) ?_
                        refine lv_bipush (v := 97) hx hb (dk DX12_nameOf 126 rfl) (by decide) ?_
                        refine lv_bipush (v := 110) hx hb (dk DX12_nameOf 127 rfl) (by decide) ?_
                        refine lv_bipush (v := 121) hx hb (dk DX12_nameOf 128 rfl) (by decide) ?_
                        refine cSl (As := [.int 109, .int 97, .int 110, .int 121]) (rest := [.long (S11.2.1)]) ⟨X.1, X.2.1, X.2.2.1, X.2.2.2.1, X.2.2.2.2.1⟩ (m_w4 (l := l) 109 97 110 121 h) (va_cwS 4 X.2.2.2.2.1 (gwS 127 128 24 86 rfl rfl rfl rfl) rfl rfl rfl q_w4 ⟨Nat.le_of_ble_eq_true rfl, Nat.le_of_ble_eq_true rfl⟩) rfl hl.1 rfl (Nat.le_of_ble_eq_true rfl) (dk DX12_nameOf 129 rfl) (fun r13 h => ?_)
                        refine W.lcmp hx hb (dk DX12_nameOf 130 rfl) ?_
                        refine lv_if_ne (tgt := 263) hx hb (dk DX12_nameOf 131 rfl) (by decide) (fun hc => ?_) (fun hc => ?_)
                        · have h := h.1 hc
                          refine lv_iconst (v := (-1)) hx hb (dk DX12_nameOf 134 rfl) (by decide) ?_
                          exact W.iret (v := (-1)) hx hb hr (fun t ht hW => ⟨⟨_, _, rfl, h, by rw [ht]; exact hP, va_K.moved hW.alike X.2.2.2.2.2.2.1, hD⟩, hS.F ht⟩) hS.2.2 (dk DX12_nameOf 135 rfl)
                        · have h := h.2 hc
                          refine lv_bipush (v := 10) hx hb (dk DX12_nameOf 132 rfl) (by decide) ?_
                          refine lv_goto (tgt := 264) hx hb (dk DX12_nameOf 133 rfl) (by decide) ?_
                          exact W.iret (v := 10) hx hb hr (fun t ht hW => ⟨⟨_, _, rfl, h, by rw [ht]; exact hP, va_K.moved hW.alike X.2.2.2.2.2.2.1, hD⟩, hS.F ht⟩) hS.2.2 (dk DX12_nameOf 135 rfl)
                      · have h := h.2 hc
                        refine lv_bipush (v := 9) hx hb (dk DX12_nameOf 121 rfl) (by decide) ?_
                        refine lv_goto (tgt := 264) hx hb (dk DX12_nameOf 122 rfl) (by decide) ?_
                        exact W.iret (v := 9) hx hb hr (fun t ht hW => ⟨⟨_, _, rfl, h, by rw [ht]; exact hP, va_K.moved hW.alike X.2.2.2.2.2.2.1, hD⟩, hS.F ht⟩) hS.2.2 (dk DX12_nameOf 135 rfl)
                    · have h := h.2 hc
                      refine lv_bipush (v := 8) hx hb (dk DX12_nameOf 116 rfl) (by decide) ?_
                      exact W.iret (v := 8) hx hb hr (fun t ht hW => ⟨⟨_, _, rfl, h, by rw [ht]; exact hP, va_K.moved hW.alike X.2.2.2.2.2.2.1, hD⟩, hS.F ht⟩) hS.2.2 (dk DX12_nameOf 117 rfl)
                  · have h := h.2 hc
                    refine lv_bipush (v := 7) hx hb (dk DX12_nameOf 98 rfl) (by decide) ?_
                    exact W.iret (v := 7) hx hb hr (fun t ht hW => ⟨⟨_, _, rfl, h, by rw [ht]; exact hP, va_K.moved hW.alike X.2.2.2.2.2.2.1, hD⟩, hS.F ht⟩) hS.2.2 (dk DX12_nameOf 99 rfl)
                · have h := h.2 hc
                  refine lv_bipush (v := 6) hx hb (dk DX12_nameOf 86 rfl) (by decide) ?_
                  exact W.iret (v := 6) hx hb hr (fun t ht hW => ⟨⟨_, _, rfl, h, by rw [ht]; exact hP, va_K.moved hW.alike X.2.2.2.2.2.2.1, hD⟩, hS.F ht⟩) hS.2.2 (dk DX12_nameOf 87 rfl)
              · have h := h.2 hc
                refine lv_iconst (v := 5) hx hb (dk DX12_nameOf 75 rfl) (by decide) ?_
                exact W.iret (v := 5) hx hb hr (fun t ht hW => ⟨⟨_, _, rfl, h, by rw [ht]; exact hP, va_K.moved hW.alike X.2.2.2.2.2.2.1, hD⟩, hS.F ht⟩) hS.2.2 (dk DX12_nameOf 76 rfl)
            · have h := h.2 hc
              refine lv_iconst (v := 4) hx hb (dk DX12_nameOf 64 rfl) (by decide) ?_
              exact W.iret (v := 4) hx hb hr (fun t ht hW => ⟨⟨_, _, rfl, h, by rw [ht]; exact hP, va_K.moved hW.alike X.2.2.2.2.2.2.1, hD⟩, hS.F ht⟩) hS.2.2 (dk DX12_nameOf 65 rfl)
          · have h := h.2 hc
            refine lv_iconst (v := 3) hx hb (dk DX12_nameOf 52 rfl) (by decide) ?_
            exact W.iret (v := 3) hx hb hr (fun t ht hW => ⟨⟨_, _, rfl, h, by rw [ht]; exact hP, va_K.moved hW.alike X.2.2.2.2.2.2.1, hD⟩, hS.F ht⟩) hS.2.2 (dk DX12_nameOf 53 rfl)
        · have h := h.2 hc
          refine lv_iconst (v := 2) hx hb (dk DX12_nameOf 40 rfl) (by decide) ?_
          exact W.iret (v := 2) hx hb hr (fun t ht hW => ⟨⟨_, _, rfl, h, by rw [ht]; exact hP, va_K.moved hW.alike X.2.2.2.2.2.2.1, hD⟩, hS.F ht⟩) hS.2.2 (dk DX12_nameOf 41 rfl)
      · have h := h.2 hc
        refine lv_iconst (v := 1) hx hb (dk DX12_nameOf 28 rfl) (by decide) ?_
        exact W.iret (v := 1) hx hb hr (fun t ht hW => ⟨⟨_, _, rfl, h, by rw [ht]; exact hP, va_K.moved hW.alike X.2.2.2.2.2.2.1, hD⟩, hS.F ht⟩) hS.2.2 (dk DX12_nameOf 29 rfl)
    · have h := h.2 hc
      refine lv_iconst (v := 0) hx hb (dk DX12_nameOf 15 rfl) (by decide) ?_
      exact W.iret (v := 0) hx hb hr (fun t ht hW => ⟨⟨_, _, rfl, h, by rw [ht]; exact hP, va_K.moved hW.alike X.2.2.2.2.2.2.1, hD⟩, hS.F ht⟩) hS.2.2 (dk DX12_nameOf 16 rfl)
  · have h := h.2 hc
    refine lv_iconst (v := (-1)) hx hb (dk DX12_nameOf 4 rfl) (by decide) ?_
    exact W.iret (v := (-1)) hx hb hr (fun t ht hW => ⟨⟨_, _, rfl, h, by rw [ht]; exact hP, va_K.moved hW.alike X.2.2.2.2.2.2.1, hD⟩, hS.F ht⟩) hS.2.2 (dk DX12_nameOf 5 rfl)

