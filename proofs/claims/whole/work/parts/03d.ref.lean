-- w3 w5 w4 w6 isWord emit push rank settle whole marker kindOpen isCompared isAskAhead
def ww_w3 : List Cond := .code yX12_w3 cX12_w3 3 (some .long) :: (WdM ++ wsX120)
theorem q_w3 : yX12_w3.cls ≠ "java/lang/invoke/MethodHandle" ∧ yX12_w3.cls ≠ "java/lang/invoke/VarHandle" ∧ (parseMethodDescriptor yX12_w3.desc).map (fun d => d.parameters.length) = some 3 := by decide +kernel
def VC_w3 (Post : Int64 → Prop) (a0 : Int32) (a1 : Int32) (a2 : Int32) : Prop := Post (((((a0.toInt64) <<< ((8 : Int32).toInt64 &&& 63)) ||| (a1.toInt64)) <<< ((8 : Int32).toInt64 &&& 63)) ||| (a2.toInt64))
set_option maxHeartbeats 4000000 in
set_option maxRecDepth 100000 in
theorem m_w3 {l : Launch} {Post : Int64 → Prop} (a0 : Int32) (a1 : Int32) (a2 : Int32) (h : VC_w3 Post a0 a1 a2) : Met l yX12_w3 ww_w3 ({ frames := 0, cells := 0, slots := 0, locals := 0 } : Room) (va_Pc [.int a0, .int a1, .int a2] (fun _ => True)) (vp_Sl Post) 0 0 (fun _ => False) := by
  refine oS (cc := cX12_w3) (maxL := 3) (ret := (some .long)) (Qc := vp_Sl Post) (by decide) rfl (Nat.le_of_ble_eq_true rfl) (fun p e s m below meth c ls X hr hlocks hl => ?_)
  have hx := X.1
  have hb := X.2.1
  have hl : lv_has ls 3 [(0, .int a0), (1, .int a1), (2, .int a2)] := hl
  dsimp only [VC_w3] at h
  refine lv_iload_n hx hb (dk DX12_w3 0 rfl) rfl (lv_at hl 0 rfl) ?_
  refine lv_i2l hx hb (dk DX12_w3 1 rfl) rfl ?_
  refine lv_bipush (v := 8) hx hb (dk DX12_w3 2 rfl) (by decide) ?_
  refine lv_lshl hx hb (dk DX12_w3 3 rfl) rfl ?_
  refine lv_iload_n hx hb (dk DX12_w3 4 rfl) rfl (lv_at hl 1 rfl) ?_
  refine lv_i2l hx hb (dk DX12_w3 5 rfl) rfl ?_
  refine lv_lor hx hb (dk DX12_w3 6 rfl) ?_
  refine lv_bipush (v := 8) hx hb (dk DX12_w3 7 rfl) (by decide) ?_
  refine lv_lshl hx hb (dk DX12_w3 8 rfl) rfl ?_
  refine lv_iload_n hx hb (dk DX12_w3 9 rfl) rfl (lv_at hl 2 rfl) ?_
  refine lv_i2l hx hb (dk DX12_w3 10 rfl) rfl ?_
  refine lv_lor hx hb (dk DX12_w3 11 rfl) ?_
  exact W.lret (v := ((((a0.toInt64) <<< ((8 : Int32).toInt64 &&& 63)) ||| (a1.toInt64)) <<< ((8 : Int32).toInt64 &&& 63)) ||| (a2.toInt64)) hx hb hr (fun t ht hW => ⟨_, rfl, h, ht⟩) (fun _ h => by cases h) (dk DX12_w3 12 rfl)

def ww_w5 : List Cond := .code yX12_w5 cX12_w5 5 (some .long) :: (WdM ++ wsX120)
theorem q_w5 : yX12_w5.cls ≠ "java/lang/invoke/MethodHandle" ∧ yX12_w5.cls ≠ "java/lang/invoke/VarHandle" ∧ (parseMethodDescriptor yX12_w5.desc).map (fun d => d.parameters.length) = some 5 := by decide +kernel
def VC_w5 (Post : Int64 → Prop) (a0 : Int32) (a1 : Int32) (a2 : Int32) (a3 : Int32) (a4 : Int32) : Prop := VC_w3 (fun r1 => Post ((((r1 <<< ((8 : Int32).toInt64 &&& 63)) ||| (a3.toInt64)) <<< ((8 : Int32).toInt64 &&& 63)) ||| (a4.toInt64))) a0 a1 a2
set_option maxHeartbeats 4000000 in
set_option maxRecDepth 100000 in
theorem m_w5 {l : Launch} {Post : Int64 → Prop} (a0 : Int32) (a1 : Int32) (a2 : Int32) (a3 : Int32) (a4 : Int32) (h : VC_w5 Post a0 a1 a2 a3 a4) : Met l yX12_w5 ww_w5 ({ frames := 1, cells := 0, slots := 0, locals := 22 } : Room) (va_Pc [.int a0, .int a1, .int a2, .int a3, .int a4] (fun _ => True)) (vp_Sl Post) 0 0 (fun _ => False) := by
  refine oS (cc := cX12_w5) (maxL := 5) (ret := (some .long)) (Qc := vp_Sl Post) (by decide) rfl (Nat.le_of_ble_eq_true rfl) (fun p e s m below meth c ls X hr hlocks hl => ?_)
  have hx := X.1
  have hb := X.2.1
  have hl : lv_has ls 5 [(0, .int a0), (1, .int a1), (2, .int a2), (3, .int a3), (4, .int a4)] := hl
  dsimp only [VC_w5] at h
  refine lv_iload_n hx hb (dk DX12_w5 0 rfl) rfl (lv_at hl 0 rfl) ?_
  refine lv_iload_n hx hb (dk DX12_w5 1 rfl) rfl (lv_at hl 1 rfl) ?_
  refine lv_iload_n hx hb (dk DX12_w5 2 rfl) rfl (lv_at hl 2 rfl) ?_
  refine cSl (As := [.int a0, .int a1, .int a2]) (rest := []) X (m_w3 (l := l) a0 a1 a2 h) (va_cwS 3 X.2.2.2.2 (gwS 84 85 24 82 rfl rfl rfl rfl) rfl rfl rfl q_w3 ⟨Nat.le_of_ble_eq_true rfl, Nat.le_of_ble_eq_true rfl⟩) rfl hl.1 rfl (Nat.le_of_ble_eq_true rfl) (dk DX12_w5 3 rfl) (fun r1 h => ?_)
  refine lv_bipush (v := 8) hx hb (dk DX12_w5 4 rfl) (by decide) ?_
  refine lv_lshl hx hb (dk DX12_w5 5 rfl) rfl ?_
  refine lv_iload_n hx hb (dk DX12_w5 6 rfl) rfl (lv_at hl 3 rfl) ?_
  refine lv_i2l hx hb (dk DX12_w5 7 rfl) rfl ?_
  refine lv_lor hx hb (dk DX12_w5 8 rfl) ?_
  refine lv_bipush (v := 8) hx hb (dk DX12_w5 9 rfl) (by decide) ?_
  refine lv_lshl hx hb (dk DX12_w5 10 rfl) rfl ?_
  refine lv_iload hx hb (dk DX12_w5 11 rfl) (lv_at hl 4 rfl) ?_
  refine lv_i2l hx hb (dk DX12_w5 12 rfl) rfl ?_
  refine lv_lor hx hb (dk DX12_w5 13 rfl) ?_
  exact W.lret (v := (((r1 <<< ((8 : Int32).toInt64 &&& 63)) ||| (a3.toInt64)) <<< ((8 : Int32).toInt64 &&& 63)) ||| (a4.toInt64)) hx hb hr (fun t ht hW => ⟨_, rfl, h, ht⟩) (fun _ h => by cases h) (dk DX12_w5 14 rfl)

def ww_w4 : List Cond := .code yX12_w4 cX12_w4 4 (some .long) :: (WdM ++ wsX120)
theorem q_w4 : yX12_w4.cls ≠ "java/lang/invoke/MethodHandle" ∧ yX12_w4.cls ≠ "java/lang/invoke/VarHandle" ∧ (parseMethodDescriptor yX12_w4.desc).map (fun d => d.parameters.length) = some 4 := by decide +kernel
def VC_w4 (Post : Int64 → Prop) (a0 : Int32) (a1 : Int32) (a2 : Int32) (a3 : Int32) : Prop := VC_w3 (fun r1 => Post ((r1 <<< ((8 : Int32).toInt64 &&& 63)) ||| (a3.toInt64))) a0 a1 a2
set_option maxHeartbeats 4000000 in
set_option maxRecDepth 100000 in
theorem m_w4 {l : Launch} {Post : Int64 → Prop} (a0 : Int32) (a1 : Int32) (a2 : Int32) (a3 : Int32) (h : VC_w4 Post a0 a1 a2 a3) : Met l yX12_w4 ww_w4 ({ frames := 1, cells := 0, slots := 0, locals := 22 } : Room) (va_Pc [.int a0, .int a1, .int a2, .int a3] (fun _ => True)) (vp_Sl Post) 0 0 (fun _ => False) := by
  refine oS (cc := cX12_w4) (maxL := 4) (ret := (some .long)) (Qc := vp_Sl Post) (by decide) rfl (Nat.le_of_ble_eq_true rfl) (fun p e s m below meth c ls X hr hlocks hl => ?_)
  have hx := X.1
  have hb := X.2.1
  have hl : lv_has ls 4 [(0, .int a0), (1, .int a1), (2, .int a2), (3, .int a3)] := hl
  dsimp only [VC_w4] at h
  refine lv_iload_n hx hb (dk DX12_w4 0 rfl) rfl (lv_at hl 0 rfl) ?_
  refine lv_iload_n hx hb (dk DX12_w4 1 rfl) rfl (lv_at hl 1 rfl) ?_
  refine lv_iload_n hx hb (dk DX12_w4 2 rfl) rfl (lv_at hl 2 rfl) ?_
  refine cSl (As := [.int a0, .int a1, .int a2]) (rest := []) X (m_w3 (l := l) a0 a1 a2 h) (va_cwS 3 X.2.2.2.2 (gwS 84 85 24 82 rfl rfl rfl rfl) rfl rfl rfl q_w3 ⟨Nat.le_of_ble_eq_true rfl, Nat.le_of_ble_eq_true rfl⟩) rfl hl.1 rfl (Nat.le_of_ble_eq_true rfl) (dk DX12_w4 3 rfl) (fun r1 h => ?_)
  refine lv_bipush (v := 8) hx hb (dk DX12_w4 4 rfl) (by decide) ?_
  refine lv_lshl hx hb (dk DX12_w4 5 rfl) rfl ?_
  refine lv_iload_n hx hb (dk DX12_w4 6 rfl) rfl (lv_at hl 3 rfl) ?_
  refine lv_i2l hx hb (dk DX12_w4 7 rfl) rfl ?_
  refine lv_lor hx hb (dk DX12_w4 8 rfl) ?_
  exact W.lret (v := (r1 <<< ((8 : Int32).toInt64 &&& 63)) ||| (a3.toInt64)) hx hb hr (fun t ht hW => ⟨_, rfl, h, ht⟩) (fun _ h => by cases h) (dk DX12_w4 9 rfl)

def ww_w6 : List Cond := .code yX12_w6 cX12_w6 6 (some .long) :: (WdM ++ wsX120)
theorem q_w6 : yX12_w6.cls ≠ "java/lang/invoke/MethodHandle" ∧ yX12_w6.cls ≠ "java/lang/invoke/VarHandle" ∧ (parseMethodDescriptor yX12_w6.desc).map (fun d => d.parameters.length) = some 6 := by decide +kernel
def VC_w6 (Post : Int64 → Prop) (a0 : Int32) (a1 : Int32) (a2 : Int32) (a3 : Int32) (a4 : Int32) (a5 : Int32) : Prop := VC_w5 (fun r1 => Post ((r1 <<< ((8 : Int32).toInt64 &&& 63)) ||| (a5.toInt64))) a0 a1 a2 a3 a4
set_option maxHeartbeats 4000000 in
set_option maxRecDepth 100000 in
theorem m_w6 {l : Launch} {Post : Int64 → Prop} (a0 : Int32) (a1 : Int32) (a2 : Int32) (a3 : Int32) (a4 : Int32) (a5 : Int32) (h : VC_w6 Post a0 a1 a2 a3 a4 a5) : Met l yX12_w6 ww_w6 ({ frames := 2, cells := 0, slots := 0, locals := 46 } : Room) (va_Pc [.int a0, .int a1, .int a2, .int a3, .int a4, .int a5] (fun _ => True)) (vp_Sl Post) 0 0 (fun _ => False) := by
  refine oS (cc := cX12_w6) (maxL := 6) (ret := (some .long)) (Qc := vp_Sl Post) (by decide) rfl (Nat.le_of_ble_eq_true rfl) (fun p e s m below meth c ls X hr hlocks hl => ?_)
  have hx := X.1
  have hb := X.2.1
  have hl : lv_has ls 6 [(0, .int a0), (1, .int a1), (2, .int a2), (3, .int a3), (4, .int a4), (5, .int a5)] := hl
  dsimp only [VC_w6] at h
  refine lv_iload_n hx hb (dk DX12_w6 0 rfl) rfl (lv_at hl 0 rfl) ?_
  refine lv_iload_n hx hb (dk DX12_w6 1 rfl) rfl (lv_at hl 1 rfl) ?_
  refine lv_iload_n hx hb (dk DX12_w6 2 rfl) rfl (lv_at hl 2 rfl) ?_
  refine lv_iload_n hx hb (dk DX12_w6 3 rfl) rfl (lv_at hl 3 rfl) ?_
  refine lv_iload hx hb (dk DX12_w6 4 rfl) (lv_at hl 4 rfl) ?_
  refine cSl (As := [.int a0, .int a1, .int a2, .int a3, .int a4]) (rest := []) X (m_w5 (l := l) a0 a1 a2 a3 a4 h) (va_cwS 5 X.2.2.2.2 (gwS 88 89 24 83 rfl rfl rfl rfl) rfl rfl rfl q_w5 ⟨Nat.le_of_ble_eq_true rfl, Nat.le_of_ble_eq_true rfl⟩) rfl hl.1 rfl (Nat.le_of_ble_eq_true rfl) (dk DX12_w6 5 rfl) (fun r1 h => ?_)
  refine lv_bipush (v := 8) hx hb (dk DX12_w6 6 rfl) (by decide) ?_
  refine lv_lshl hx hb (dk DX12_w6 7 rfl) rfl ?_
  refine lv_iload hx hb (dk DX12_w6 8 rfl) (lv_at hl 5 rfl) ?_
  refine lv_i2l hx hb (dk DX12_w6 9 rfl) rfl ?_
  refine lv_lor hx hb (dk DX12_w6 10 rfl) ?_
  exact W.lret (v := (r1 <<< ((8 : Int32).toInt64 &&& 63)) ||| (a5.toInt64)) hx hb hr (fun t ht hW => ⟨_, rfl, h, ht⟩) (fun _ h => by cases h) (dk DX12_w6 11 rfl)

def ww_isWord : List Cond := .code yX12_isWord cX12_isWord 3 (some .boolean) :: (WdM ++ wsX120)
theorem q_isWord : yX12_isWord.cls = RX12 ∧ yX12_isWord.cls ≠ "java/lang/invoke/MethodHandle" ∧ yX12_isWord.cls ≠ "java/lang/invoke/VarHandle" ∧ (parseMethodDescriptor yX12_isWord.desc).map (fun d => d.parameters.length) = some 1 := by decide +kernel
def VC_isWord (Post : Int32 → MS → Prop) (a0 : Int64) (S : MS) : Prop := ((¬ (S.1 9) = 2 → Post 0 S) ∧ ((S.1 9) = 2 → ((¬ (lg_cmp (S.2.1) a0) = 0 → Post 0 S) ∧ ((lg_cmp (S.2.1) a0) = 0 → Post 1 S))))
set_option maxHeartbeats 4000000 in
set_option maxRecDepth 100000 in
theorem m_isWord {l : Launch} {dC : Nat → ClassId} {dI : Nat → Nat → Nat} {q : Nat → Nat} {cI cJ cZ : ClassId} {sz : Nat} {Post : Int32 → MS → Prop} (a0 : Int64) (S : MS) (h : VC_isWord Post a0 S) : Met l yX12_isWord ww_isWord ({ frames := 0, cells := 0, slots := 0, locals := 0 } : Room) (va_Pc [.ref (q 0), .long a0] (preM dC dI q cI cJ cZ S sz)) (va_Qi Post (atM dC dI q cI cJ cZ (va_A (wM q cI cJ cZ S) sz)) (va_A (wM q cI cJ cZ S) sz)) 0 0 (va_A (wM q cI cJ cZ S) sz) := by
  refine oM (cc := cX12_isWord) (maxL := 3) (ret := (some .boolean)) (Qc := fun A => va_Qi Post (atM dC dI q cI cJ cZ A) A) (by decide) rfl (fun w h => List.mem_cons_of_mem _ (List.mem_append_right _ h)) rfl (Nat.le_of_ble_eq_true rfl) (fun p e s m below meth c A ls X hr hlocks hP hD hS hl => ?_)
  have hx := X.1
  have hb := X.2.1
  have hl : lv_has ls 3 [(0, .ref (q 0)), (1, .long a0)] := hl
  have lk102 := X.2.2.2.2.1 (.fieldLink RX12 102 "BreathOnLoanModel" "token" "I") (inW 71 rfl)
  have lk115 := X.2.2.2.2.1 (.fieldLink RX12 115 "BreathOnLoanModel" "word" "J") (inW 74 rfl)
  dsimp only [VC_isWord] at h
  refine lv_aload_n hx hb (dk DX12_isWord 0 rfl) rfl (lv_at hl 0 rfl) ?_
  refine gM X hP 9 (by decide) rfl lk102 (dk DX12_isWord 1 rfl) ?_
  refine lv_iconst (v := 2) hx hb (dk DX12_isWord 2 rfl) (by decide) ?_
  refine lv_icmp_ne (tgt := 21) hx hb (dk DX12_isWord 3 rfl) (by decide) (fun hc => ?_) (fun hc => ?_)
  · have h := h.1 hc
    refine lv_iconst (v := 0) hx hb (dk DX12_isWord 11 rfl) (by decide) ?_
    exact W.zret (v := 0) hx hb hr (by decide) (fun t ht hW => ⟨⟨_, _, rfl, h, by rw [ht]; exact hP, va_K.moved hW.alike X.2.2.2.2.2.2.1, hD⟩, hS.F ht⟩) hS.2.2 (dk DX12_isWord 12 rfl)
  · have h := h.2 hc
    refine lv_aload_n hx hb (dk DX12_isWord 4 rfl) rfl (lv_at hl 0 rfl) ?_
    refine gM X hP 11 (by decide) rfl lk115 (dk DX12_isWord 5 rfl) ?_
    refine lv_lload_n hx hb (dk DX12_isWord 6 rfl) rfl (lv_at hl 1 rfl) ?_
    refine W.lcmp hx hb (dk DX12_isWord 7 rfl) ?_
    refine lv_if_ne (tgt := 21) hx hb (dk DX12_isWord 8 rfl) (by decide) (fun hc => ?_) (fun hc => ?_)
    · have h := h.1 hc
      refine lv_iconst (v := 0) hx hb (dk DX12_isWord 11 rfl) (by decide) ?_
      exact W.zret (v := 0) hx hb hr (by decide) (fun t ht hW => ⟨⟨_, _, rfl, h, by rw [ht]; exact hP, va_K.moved hW.alike X.2.2.2.2.2.2.1, hD⟩, hS.F ht⟩) hS.2.2 (dk DX12_isWord 12 rfl)
    · have h := h.2 hc
      refine lv_iconst (v := 1) hx hb (dk DX12_isWord 9 rfl) (by decide) ?_
      refine lv_goto (tgt := 22) hx hb (dk DX12_isWord 10 rfl) (by decide) ?_
      exact W.zret (v := 1) hx hb hr (by decide) (fun t ht hW => ⟨⟨_, _, rfl, h, by rw [ht]; exact hP, va_K.moved hW.alike X.2.2.2.2.2.2.1, hD⟩, hS.F ht⟩) hS.2.2 (dk DX12_isWord 12 rfl)

def ww_emit : List Cond := .code yX12_emit cX12_emit 3 none :: (WdM ++ wsX120)
theorem q_emit : yX12_emit.cls = RX12 ∧ yX12_emit.cls ≠ "java/lang/invoke/MethodHandle" ∧ yX12_emit.cls ≠ "java/lang/invoke/VarHandle" ∧ (parseMethodDescriptor yX12_emit.desc).map (fun d => d.parameters.length) = some 2 := by decide +kernel
def VC_emit (Post : MS → Prop) (a0 : Int32) (a1 : Int32) (S : MS) : Prop := vp_in (((S.1 12) + 75) + (2 * (S.1 14))) 2720 ∧ ∀ S1 : MS, S1 = sF S 2 (upd (S.2.2.1 2) (((S.1 12) + 75) + (2 * (S.1 14))).toNatClampNeg a0) → vp_in ((((S1.1 12) + 75) + (2 * (S1.1 14))) + 1) 2720 ∧ ∀ S2 : MS, S2 = sF S1 2 (upd (S1.2.2.1 2) ((((S1.1 12) + 75) + (2 * (S1.1 14))) + 1).toNatClampNeg a1) → ∀ v3 : Int32, v3 = (S2.1 14) + 1 → ∀ S4 : MS, S4 = sI S2 14 v3 → Post S4
set_option maxHeartbeats 4000000 in
set_option maxRecDepth 100000 in
theorem m_emit {l : Launch} {dC : Nat → ClassId} {dI : Nat → Nat → Nat} {q : Nat → Nat} {cI cJ cZ : ClassId} {sz : Nat} {Post : MS → Prop} (a0 : Int32) (a1 : Int32) (S : MS) (h : VC_emit Post a0 a1 S) : Met l yX12_emit ww_emit ({ frames := 0, cells := 0, slots := 0, locals := 0 } : Room) (va_Pc [.ref (q 0), .int a0, .int a1] (preM dC dI q cI cJ cZ S sz)) (va_Qv Post (atM dC dI q cI cJ cZ (va_A (wM q cI cJ cZ S) sz)) (va_A (wM q cI cJ cZ S) sz)) 0 0 (va_A (wM q cI cJ cZ S) sz) := by
  refine oM (cc := cX12_emit) (maxL := 3) (ret := none) (Qc := fun A => va_Qv Post (atM dC dI q cI cJ cZ A) A) (by decide) rfl (fun w h => List.mem_cons_of_mem _ (List.mem_append_right _ h)) rfl (Nat.le_of_ble_eq_true rfl) (fun p e s m below meth c A ls X hr hlocks hP hD hS hl => ?_)
  have hx := X.1
  have hb := X.2.1
  have hl : lv_has ls 3 [(0, .ref (q 0)), (1, .int a0), (2, .int a1)] := hl
  have lk16 := X.2.2.2.2.1 (.fieldLink RX12 16 "BreathOnLoanModel" "texts" "[I") (inW 7 rfl)
  have lk127 := X.2.2.2.2.1 (.fieldLink RX12 127 "BreathOnLoanModel" "text0" "I") (inW 92 rfl)
  have lk130 := X.2.2.2.2.1 (.fieldLink RX12 130 "BreathOnLoanModel" "written" "I") (inW 93 rfl)
  dsimp only [VC_emit] at h
  refine lv_aload_n hx hb (dk DX12_emit 0 rfl) rfl (lv_at hl 0 rfl) ?_
  refine gM X hP 2 (by decide) rfl lk16 (dk DX12_emit 1 rfl) ?_
  refine lv_aload_n hx hb (dk DX12_emit 2 rfl) rfl (lv_at hl 0 rfl) ?_
  refine gM X hP 12 (by decide) rfl lk127 (dk DX12_emit 3 rfl) ?_
  refine lv_bipush (v := 75) hx hb (dk DX12_emit 4 rfl) (by decide) ?_
  refine lv_iadd hx hb (dk DX12_emit 5 rfl) ?_
  refine lv_iconst (v := 2) hx hb (dk DX12_emit 6 rfl) (by decide) ?_
  refine lv_aload_n hx hb (dk DX12_emit 7 rfl) rfl (lv_at hl 0 rfl) ?_
  refine gM X hP 14 (by decide) rfl lk130 (dk DX12_emit 8 rfl) ?_
  refine lv_imul hx hb (dk DX12_emit 9 rfl) ?_
  refine lv_iadd hx hb (dk DX12_emit 10 rfl) ?_
  refine lv_iload_n hx hb (dk DX12_emit 11 rfl) rfl (lv_at hl 1 rfl) ?_
  obtain ⟨hin, h⟩ := h
  refine stM_2 X hP hD hS hin (dk DX12_emit 12 rfl) (fun S1 eS1 H locs hP hD hS => ?_)
  have h := h S1 eS1
  refine lv_aload_n hx hb (dk DX12_emit 13 rfl) rfl (lv_at hl 0 rfl) ?_
  refine gM X hP 2 (by decide) rfl lk16 (dk DX12_emit 14 rfl) ?_
  refine lv_aload_n hx hb (dk DX12_emit 15 rfl) rfl (lv_at hl 0 rfl) ?_
  refine gM X hP 12 (by decide) rfl lk127 (dk DX12_emit 16 rfl) ?_
  refine lv_bipush (v := 75) hx hb (dk DX12_emit 17 rfl) (by decide) ?_
  refine lv_iadd hx hb (dk DX12_emit 18 rfl) ?_
  refine lv_iconst (v := 2) hx hb (dk DX12_emit 19 rfl) (by decide) ?_
  refine lv_aload_n hx hb (dk DX12_emit 20 rfl) rfl (lv_at hl 0 rfl) ?_
  refine gM X hP 14 (by decide) rfl lk130 (dk DX12_emit 21 rfl) ?_
  refine lv_imul hx hb (dk DX12_emit 22 rfl) ?_
  refine lv_iadd hx hb (dk DX12_emit 23 rfl) ?_
  refine lv_iconst (v := 1) hx hb (dk DX12_emit 24 rfl) (by decide) ?_
  refine lv_iadd hx hb (dk DX12_emit 25 rfl) ?_
  refine lv_iload_n hx hb (dk DX12_emit 26 rfl) rfl (lv_at hl 2 rfl) ?_
  obtain ⟨hin, h⟩ := h
  refine stM_2 X hP hD hS hin (dk DX12_emit 27 rfl) (fun S2 eS2 H locs hP hD hS => ?_)
  have h := h S2 eS2
  refine lv_aload_n hx hb (dk DX12_emit 28 rfl) rfl (lv_at hl 0 rfl) ?_
  refine lv_dup hx hb (dk DX12_emit 29 rfl) rfl ?_
  refine gM X hP 14 (by decide) rfl lk130 (dk DX12_emit 30 rfl) ?_
  refine lv_iconst (v := 1) hx hb (dk DX12_emit 31 rfl) (by decide) ?_
  refine lv_iadd hx hb (dk DX12_emit 32 rfl) ?_
  refine lv_topi (fun v3 ev3 => ?_)
  have h := h v3 ev3
  refine pM_14 X hP hD hS lk130 (dk DX12_emit 33 rfl) (fun S4 eS4 H locs hP hD hS => ?_)
  have h := h S4 eS4
  exact W.vret hx hb hr (fun t ht hW => ⟨⟨_, rfl, h, by rw [ht]; exact hP, va_K.moved hW.alike X.2.2.2.2.2.2.1, hD⟩, hS.F ht⟩) hS.2.2 (dk DX12_emit 34 rfl)

def ww_push : List Cond := .code yX12_push cX12_push 2 none :: (WdM ++ wsX120)
theorem q_push : yX12_push.cls = RX12 ∧ yX12_push.cls ≠ "java/lang/invoke/MethodHandle" ∧ yX12_push.cls ≠ "java/lang/invoke/VarHandle" ∧ (parseMethodDescriptor yX12_push.desc).map (fun d => d.parameters.length) = some 1 := by decide +kernel
def VC_push (Post : MS → Prop) (a0 : Int32) (S : MS) : Prop := vp_in (S.1 17) 160 ∧ ∀ S1 : MS, S1 = sF S 16 (upd (S.2.2.1 16) (S.1 17).toNatClampNeg a0) → ∀ v2 : Int32, v2 = (S1.1 17) + 1 → ∀ S3 : MS, S3 = sI S1 17 v2 → Post S3
set_option maxHeartbeats 4000000 in
set_option maxRecDepth 100000 in
theorem m_push {l : Launch} {dC : Nat → ClassId} {dI : Nat → Nat → Nat} {q : Nat → Nat} {cI cJ cZ : ClassId} {sz : Nat} {Post : MS → Prop} (a0 : Int32) (S : MS) (h : VC_push Post a0 S) : Met l yX12_push ww_push ({ frames := 0, cells := 0, slots := 0, locals := 0 } : Room) (va_Pc [.ref (q 0), .int a0] (preM dC dI q cI cJ cZ S sz)) (va_Qv Post (atM dC dI q cI cJ cZ (va_A (wM q cI cJ cZ S) sz)) (va_A (wM q cI cJ cZ S) sz)) 0 0 (va_A (wM q cI cJ cZ S) sz) := by
  refine oM (cc := cX12_push) (maxL := 2) (ret := none) (Qc := fun A => va_Qv Post (atM dC dI q cI cJ cZ A) A) (by decide) rfl (fun w h => List.mem_cons_of_mem _ (List.mem_append_right _ h)) rfl (Nat.le_of_ble_eq_true rfl) (fun p e s m below meth c A ls X hr hlocks hP hD hS hl => ?_)
  have hx := X.1
  have hb := X.2.1
  have hl : lv_has ls 2 [(0, .ref (q 0)), (1, .int a0)] := hl
  have lk29 := X.2.2.2.2.1 (.fieldLink RX12 29 "BreathOnLoanModel" "pile" "[I") (inW 11 rfl)
  have lk133 := X.2.2.2.2.1 (.fieldLink RX12 133 "BreathOnLoanModel" "piled" "I") (inW 95 rfl)
  dsimp only [VC_push] at h
  refine lv_aload_n hx hb (dk DX12_push 0 rfl) rfl (lv_at hl 0 rfl) ?_
  refine gM X hP 16 (by decide) rfl lk29 (dk DX12_push 1 rfl) ?_
  refine lv_aload_n hx hb (dk DX12_push 2 rfl) rfl (lv_at hl 0 rfl) ?_
  refine gM X hP 17 (by decide) rfl lk133 (dk DX12_push 3 rfl) ?_
  refine lv_iload_n hx hb (dk DX12_push 4 rfl) rfl (lv_at hl 1 rfl) ?_
  obtain ⟨hin, h⟩ := h
  refine stM_16 X hP hD hS hin (dk DX12_push 5 rfl) (fun S1 eS1 H locs hP hD hS => ?_)
  have h := h S1 eS1
  refine lv_aload_n hx hb (dk DX12_push 6 rfl) rfl (lv_at hl 0 rfl) ?_
  refine lv_dup hx hb (dk DX12_push 7 rfl) rfl ?_
  refine gM X hP 17 (by decide) rfl lk133 (dk DX12_push 8 rfl) ?_
  refine lv_iconst (v := 1) hx hb (dk DX12_push 9 rfl) (by decide) ?_
  refine lv_iadd hx hb (dk DX12_push 10 rfl) ?_
  refine lv_topi (fun v2 ev2 => ?_)
  have h := h v2 ev2
  refine pM_17 X hP hD hS lk133 (dk DX12_push 11 rfl) (fun S3 eS3 H locs hP hD hS => ?_)
  have h := h S3 eS3
  exact W.vret hx hb hr (fun t ht hW => ⟨⟨_, rfl, h, by rw [ht]; exact hP, va_K.moved hW.alike X.2.2.2.2.2.2.1, hD⟩, hS.F ht⟩) hS.2.2 (dk DX12_push 12 rfl)

def ww_rank : List Cond := .code yX12_rank cX12_rank 1 (some .int) :: (WdM ++ wsX120)
theorem q_rank : yX12_rank.cls ≠ "java/lang/invoke/MethodHandle" ∧ yX12_rank.cls ≠ "java/lang/invoke/VarHandle" ∧ (parseMethodDescriptor yX12_rank.desc).map (fun d => d.parameters.length) = some 1 := by decide +kernel
def VC_rank (Post : Int32 → Prop) (a0 : Int32) : Prop := ((a0 < 40 → ((¬ a0 = 22 → ((¬ a0 = 21 → ((¬ a0 = 20 → ((a0 < 10 → ((¬ a0 = 2 → ((a0 < 5 → Post 5) ∧ (¬ a0 < 5 → Post 6))) ∧ (a0 = 2 → Post 7))) ∧ (¬ a0 < 10 → Post 4))) ∧ (a0 = 20 → Post 3))) ∧ (a0 = 21 → Post 2))) ∧ (a0 = 22 → Post 1))) ∧ (¬ a0 < 40 → Post 0))
set_option maxHeartbeats 4000000 in
set_option maxRecDepth 100000 in
theorem m_rank {l : Launch} {Post : Int32 → Prop} (a0 : Int32) (h : VC_rank Post a0) : Met l yX12_rank ww_rank ({ frames := 0, cells := 0, slots := 0, locals := 0 } : Room) (va_Pc [.int a0] (fun _ => True)) (vp_Si Post) 0 0 (fun _ => False) := by
  refine oS (cc := cX12_rank) (maxL := 1) (ret := (some .int)) (Qc := vp_Si Post) (by decide) rfl (Nat.le_of_ble_eq_true rfl) (fun p e s m below meth c ls X hr hlocks hl => ?_)
  have hx := X.1
  have hb := X.2.1
  have hl : lv_has ls 1 [(0, .int a0)] := hl
  dsimp only [VC_rank] at h
  refine lv_iload_n hx hb (dk DX12_rank 0 rfl) rfl (lv_at hl 0 rfl) ?_
  refine lv_bipush (v := 40) hx hb (dk DX12_rank 1 rfl) (by decide) ?_
  refine lv_icmp_lt (tgt := 10) hx hb (dk DX12_rank 2 rfl) (by decide) (fun hc => ?_) (fun hc => ?_)
  · have h := h.1 hc
    refine lv_iload_n hx hb (dk DX12_rank 5 rfl) rfl (lv_at hl 0 rfl) ?_
    refine lv_bipush (v := 22) hx hb (dk DX12_rank 6 rfl) (by decide) ?_
    refine lv_icmp_ne (tgt := 20) hx hb (dk DX12_rank 7 rfl) (by decide) (fun hc => ?_) (fun hc => ?_)
    · have h := h.1 hc
      refine lv_iload_n hx hb (dk DX12_rank 10 rfl) rfl (lv_at hl 0 rfl) ?_
      refine lv_bipush (v := 21) hx hb (dk DX12_rank 11 rfl) (by decide) ?_
      refine lv_icmp_ne (tgt := 30) hx hb (dk DX12_rank 12 rfl) (by decide) (fun hc => ?_) (fun hc => ?_)
      · have h := h.1 hc
        refine lv_iload_n hx hb (dk DX12_rank 15 rfl) rfl (lv_at hl 0 rfl) ?_
        refine lv_bipush (v := 20) hx hb (dk DX12_rank 16 rfl) (by decide) ?_
        refine lv_icmp_ne (tgt := 40) hx hb (dk DX12_rank 17 rfl) (by decide) (fun hc => ?_) (fun hc => ?_)
        · have h := h.1 hc
          refine lv_iload_n hx hb (dk DX12_rank 20 rfl) rfl (lv_at hl 0 rfl) ?_
          refine lv_bipush (v := 10) hx hb (dk DX12_rank 21 rfl) (by decide) ?_
          refine lv_icmp_lt (tgt := 50) hx hb (dk DX12_rank 22 rfl) (by decide) (fun hc => ?_) (fun hc => ?_)
          · have h := h.1 hc
            refine lv_iload_n hx hb (dk DX12_rank 25 rfl) rfl (lv_at hl 0 rfl) ?_
            refine lv_iconst (v := 2) hx hb (dk DX12_rank 26 rfl) (by decide) ?_
            refine lv_icmp_ne (tgt := 60) hx hb (dk DX12_rank 27 rfl) (by decide) (fun hc => ?_) (fun hc => ?_)
            · have h := h.1 hc
              refine lv_iload_n hx hb (dk DX12_rank 30 rfl) rfl (lv_at hl 0 rfl) ?_
              refine lv_iconst (v := 5) hx hb (dk DX12_rank 31 rfl) (by decide) ?_
              refine lv_icmp_lt (tgt := 70) hx hb (dk DX12_rank 32 rfl) (by decide) (fun hc => ?_) (fun hc => ?_)
              · have h := h.1 hc
                refine lv_iconst (v := 5) hx hb (dk DX12_rank 35 rfl) (by decide) ?_
                exact W.iret (v := 5) hx hb hr (fun t ht hW => ⟨_, rfl, h, ht⟩) (fun _ h => by cases h) (dk DX12_rank 36 rfl)
              · have h := h.2 hc
                refine lv_bipush (v := 6) hx hb (dk DX12_rank 33 rfl) (by decide) ?_
                refine lv_goto (tgt := 71) hx hb (dk DX12_rank 34 rfl) (by decide) ?_
                exact W.iret (v := 6) hx hb hr (fun t ht hW => ⟨_, rfl, h, ht⟩) (fun _ h => by cases h) (dk DX12_rank 36 rfl)
            · have h := h.2 hc
              refine lv_bipush (v := 7) hx hb (dk DX12_rank 28 rfl) (by decide) ?_
              refine lv_goto (tgt := 71) hx hb (dk DX12_rank 29 rfl) (by decide) ?_
              exact W.iret (v := 7) hx hb hr (fun t ht hW => ⟨_, rfl, h, ht⟩) (fun _ h => by cases h) (dk DX12_rank 36 rfl)
          · have h := h.2 hc
            refine lv_iconst (v := 4) hx hb (dk DX12_rank 23 rfl) (by decide) ?_
            refine lv_goto (tgt := 71) hx hb (dk DX12_rank 24 rfl) (by decide) ?_
            exact W.iret (v := 4) hx hb hr (fun t ht hW => ⟨_, rfl, h, ht⟩) (fun _ h => by cases h) (dk DX12_rank 36 rfl)
        · have h := h.2 hc
          refine lv_iconst (v := 3) hx hb (dk DX12_rank 18 rfl) (by decide) ?_
          refine lv_goto (tgt := 71) hx hb (dk DX12_rank 19 rfl) (by decide) ?_
          exact W.iret (v := 3) hx hb hr (fun t ht hW => ⟨_, rfl, h, ht⟩) (fun _ h => by cases h) (dk DX12_rank 36 rfl)
      · have h := h.2 hc
        refine lv_iconst (v := 2) hx hb (dk DX12_rank 13 rfl) (by decide) ?_
        refine lv_goto (tgt := 71) hx hb (dk DX12_rank 14 rfl) (by decide) ?_
        exact W.iret (v := 2) hx hb hr (fun t ht hW => ⟨_, rfl, h, ht⟩) (fun _ h => by cases h) (dk DX12_rank 36 rfl)
    · have h := h.2 hc
      refine lv_iconst (v := 1) hx hb (dk DX12_rank 8 rfl) (by decide) ?_
      refine lv_goto (tgt := 71) hx hb (dk DX12_rank 9 rfl) (by decide) ?_
      exact W.iret (v := 1) hx hb hr (fun t ht hW => ⟨_, rfl, h, ht⟩) (fun _ h => by cases h) (dk DX12_rank 36 rfl)
  · have h := h.2 hc
    refine lv_iconst (v := 0) hx hb (dk DX12_rank 3 rfl) (by decide) ?_
    refine lv_goto (tgt := 71) hx hb (dk DX12_rank 4 rfl) (by decide) ?_
    exact W.iret (v := 0) hx hb hr (fun t ht hW => ⟨_, rfl, h, ht⟩) (fun _ h => by cases h) (dk DX12_rank 36 rfl)

def ww_settle : List Cond := .code yX12_settle cX12_settle 2 none :: (WdM ++ wsX120)
theorem q_settle : yX12_settle.cls = RX12 ∧ yX12_settle.cls ≠ "java/lang/invoke/MethodHandle" ∧ yX12_settle.cls ≠ "java/lang/invoke/VarHandle" ∧ (parseMethodDescriptor yX12_settle.desc).map (fun d => d.parameters.length) = some 1 := by decide +kernel
abbrev Hd_settle : Type := (Int32)
def B_settle (Post : MS → Prop) (K : Hd_settle → MS → Prop) : Hd_settle → MS → Prop
  | x1, S => (((S.1 17) ≤ 0 → Post S) ∧ (¬ (S.1 17) ≤ 0 → vp_in ((S.1 17) - 1) 160 ∧ VC_rank (fun r1 => ((r1 < x1 → Post S) ∧ (¬ r1 < x1 → ∀ v2 : Int32, v2 = (S.1 17) - 1 → ∀ S3 : MS, S3 = sI S 17 v2 → vp_in (S3.1 17) 160 ∧ VC_emit (fun S4 => vp_in (S4.1 17) 160 ∧ ((((S4.2.2.1 16) (S4.1 17).toNatClampNeg) = 2 → ∀ v5 : Int32, v5 = (S4.1 18) - 1 → ∀ S6 : MS, S6 = sI S4 18 v5 → K x1 S6) ∧ (¬ ((S4.2.2.1 16) (S4.1 17).toNatClampNeg) = 2 → vp_in (S4.1 17) 160 ∧ ((¬ ((S4.2.2.1 16) (S4.1 17).toNatClampNeg) = 20 → K x1 S4) ∧ (((S4.2.2.1 16) (S4.1 17).toNatClampNeg) = 20 → ∀ v7 : Int32, v7 = (S4.1 18) - 1 → ∀ S8 : MS, S8 = sI S4 18 v7 → K x1 S8))))) ((S3.2.2.1 16) (S3.1 17).toNatClampNeg) 0 S3))) ((S.2.2.1 16) ((S.1 17) - 1).toNatClampNeg)))
def VC_settle (Post : MS → Prop) (a0 : Int32) (S : MS) : Prop := ∀ K : Hd_settle → MS → Prop, (∀ h S, B_settle Post K h S → K h S) → K a0 S
set_option maxHeartbeats 4000000 in
set_option maxRecDepth 100000 in
theorem h_settle_0 {p : Program} {l : Launch} {e : Env} {s : State} {m : MethodId} {below : List Frame} {meth : Method} {c : Code} {dC : Nat → ClassId} {dI : Nat → Nat → Nat} {q : Nat → Nat} {cI cJ cZ : ClassId} {A : Nat → Prop} {args : Array Value} {Post : MS → Prop} {K : Hd_settle → MS → Prop} (X : XM p s m args c cX12_settle 2 ww_settle dC dI cI cJ cZ A) (hr : meth.sig.returnType = none) (hlocks : meth.locks = false) (hK0 : ∀ (x1 : Int32) (S : MS), K x1 S → ∀ (H : Heap) (locs : List Loc), va_P (dC, dI) vwCl (wM q cI cJ cZ S) H → va_D A (wM q cI cJ cZ S) → va_S A s.heap H locs → ∀ ls : Array Slot, lv_has ls 2 [(0, .ref (q 0)), (1, .int x1)] → W p l e (headSpec ww_settle ({ frames := 1, cells := 0, slots := 0, locals := 22 } : Room)).room s m args below meth c H locs 0 0 (MQ below (va_Qv Post (atM dC dI q cI cJ cZ A) A) args s 0 0 A) (F0 m 0 ls [])) (x1 : Int32) (S : MS) (h : B_settle Post K x1 S) : ∀ (H : Heap) (locs : List Loc), va_P (dC, dI) vwCl (wM q cI cJ cZ S) H → va_D A (wM q cI cJ cZ S) → va_S A s.heap H locs → ∀ ls : Array Slot, lv_has ls 2 [(0, .ref (q 0)), (1, .int x1)] → W p l e (headSpec ww_settle ({ frames := 1, cells := 0, slots := 0, locals := 22 } : Room)).room s m args below meth c H locs 0 0 (MQ below (va_Qv Post (atM dC dI q cI cJ cZ A) A) args s 0 0 A) (F0 m 0 ls []) := by
  have hx := X.1
  have hb := X.2.1
  intro H locs hP hD hS ls hl
  have lk133 := X.2.2.2.2.1 (.fieldLink RX12 133 "BreathOnLoanModel" "piled" "I") (inW 95 rfl)
  have lk29 := X.2.2.2.2.1 (.fieldLink RX12 29 "BreathOnLoanModel" "pile" "[I") (inW 11 rfl)
  have lk143 := X.2.2.2.2.1 (.fieldLink RX12 143 "BreathOnLoanModel" "opens" "I") (inW 98 rfl)
  dsimp only [B_settle] at h
  refine lv_aload_n hx hb (dk DX12_settle 0 rfl) rfl (lv_at hl 0 rfl) ?_
  refine gM X hP 17 (by decide) rfl lk133 (dk DX12_settle 1 rfl) ?_
  refine lv_if_le (tgt := 89) hx hb (dk DX12_settle 2 rfl) (by decide) (fun hc => ?_) (fun hc => ?_)
  · have h := h.1 hc
    exact W.vret hx hb hr (fun t ht hW => ⟨⟨_, rfl, h, by rw [ht]; exact hP, va_K.moved hW.alike X.2.2.2.2.2.2.1, hD⟩, hS.F ht⟩) hS.2.2 (dk DX12_settle 48 rfl)
  · have h := h.2 hc
    refine lv_aload_n hx hb (dk DX12_settle 3 rfl) rfl (lv_at hl 0 rfl) ?_
    refine gM X hP 16 (by decide) rfl lk29 (dk DX12_settle 4 rfl) ?_
    refine lv_aload_n hx hb (dk DX12_settle 5 rfl) rfl (lv_at hl 0 rfl) ?_
    refine gM X hP 17 (by decide) rfl lk133 (dk DX12_settle 6 rfl) ?_
    refine lv_iconst (v := 1) hx hb (dk DX12_settle 7 rfl) (by decide) ?_
    refine lv_isub hx hb (dk DX12_settle 8 rfl) ?_
    obtain ⟨hin, h⟩ := h
    refine ldM X hP 5 rfl hin (dk DX12_settle 9 rfl) ?_
    refine cSi (As := [.int ((S.2.2.1 16) ((S.1 17) - 1).toNatClampNeg)]) (rest := []) ⟨X.1, X.2.1, X.2.2.1, X.2.2.2.1, X.2.2.2.2.1⟩ (m_rank (l := l) ((S.2.2.1 16) ((S.1 17) - 1).toNatClampNeg) h) (va_cwS 1 X.2.2.2.2.1 (gwS 99 100 24 96 rfl rfl rfl rfl) rfl rfl rfl q_rank ⟨Nat.le_of_ble_eq_true rfl, Nat.le_of_ble_eq_true rfl⟩) rfl hl.1 rfl (Nat.le_of_ble_eq_true rfl) (dk DX12_settle 10 rfl) (fun r1 h => ?_)
    refine lv_iload_n hx hb (dk DX12_settle 11 rfl) rfl (lv_at hl 1 rfl) ?_
    refine lv_icmp_lt (tgt := 89) hx hb (dk DX12_settle 12 rfl) (by decide) (fun hc => ?_) (fun hc => ?_)
    · have h := h.1 hc
      exact W.vret hx hb hr (fun t ht hW => ⟨⟨_, rfl, h, by rw [ht]; exact hP, va_K.moved hW.alike X.2.2.2.2.2.2.1, hD⟩, hS.F ht⟩) hS.2.2 (dk DX12_settle 48 rfl)
    · have h := h.2 hc
      refine lv_aload_n hx hb (dk DX12_settle 13 rfl) rfl (lv_at hl 0 rfl) ?_
      refine lv_dup hx hb (dk DX12_settle 14 rfl) rfl ?_
      refine gM X hP 17 (by decide) rfl lk133 (dk DX12_settle 15 rfl) ?_
      refine lv_iconst (v := 1) hx hb (dk DX12_settle 16 rfl) (by decide) ?_
      refine lv_isub hx hb (dk DX12_settle 17 rfl) ?_
      refine lv_topi (fun v2 ev2 => ?_)
      have h := h v2 ev2
      refine pM_17 X hP hD hS lk133 (dk DX12_settle 18 rfl) (fun S3 eS3 H locs hP hD hS => ?_)
      have h := h S3 eS3
      refine lv_aload_n hx hb (dk DX12_settle 19 rfl) rfl (lv_at hl 0 rfl) ?_
      refine lv_aload_n hx hb (dk DX12_settle 20 rfl) rfl (lv_at hl 0 rfl) ?_
      refine gM X hP 16 (by decide) rfl lk29 (dk DX12_settle 21 rfl) ?_
      refine lv_aload_n hx hb (dk DX12_settle 22 rfl) rfl (lv_at hl 0 rfl) ?_
      refine gM X hP 17 (by decide) rfl lk133 (dk DX12_settle 23 rfl) ?_
      obtain ⟨hin, h⟩ := h
      refine ldM X hP 5 rfl hin (dk DX12_settle 24 rfl) ?_
      refine lv_iconst (v := 0) hx hb (dk DX12_settle 25 rfl) (by decide) ?_
      refine cMv (As := [.int ((S3.2.2.1 16) (S3.1 17).toNatClampNeg), .int 0]) (rest := []) X (m_emit (l := l) (dC := dC) (dI := dI) (q := q) (cI := cI) (cJ := cJ) (cZ := cZ) (sz := _) ((S3.2.2.1 16) (S3.1 17).toNatClampNeg) 0 S3 h) (cwV 2 X.2.2.2.2.1 (gwV 101 102 103 24 91 rfl rfl rfl rfl rfl) rfl rfl rfl q_emit ⟨Nat.le_of_ble_eq_true rfl, Nat.le_of_ble_eq_true rfl⟩) hP hD hS rfl hl.1 rfl (Nat.le_of_ble_eq_true rfl) (dk DX12_settle 26 rfl) (fun S4 H locs h hP hD hS => ?_)
      refine lv_aload_n hx hb (dk DX12_settle 27 rfl) rfl (lv_at hl 0 rfl) ?_
      refine gM X hP 16 (by decide) rfl lk29 (dk DX12_settle 28 rfl) ?_
      refine lv_aload_n hx hb (dk DX12_settle 29 rfl) rfl (lv_at hl 0 rfl) ?_
      refine gM X hP 17 (by decide) rfl lk133 (dk DX12_settle 30 rfl) ?_
      obtain ⟨hin, h⟩ := h
      refine ldM X hP 5 rfl hin (dk DX12_settle 31 rfl) ?_
      refine lv_iconst (v := 2) hx hb (dk DX12_settle 32 rfl) (by decide) ?_
      refine lv_icmp_eq (tgt := 76) hx hb (dk DX12_settle 33 rfl) (by decide) (fun hc => ?_) (fun hc => ?_)
      · have h := h.1 hc
        refine lv_aload_n hx hb (dk DX12_settle 41 rfl) rfl (lv_at hl 0 rfl) ?_
        refine lv_dup hx hb (dk DX12_settle 42 rfl) rfl ?_
        refine gM X hP 18 (by decide) rfl lk143 (dk DX12_settle 43 rfl) ?_
        refine lv_iconst (v := 1) hx hb (dk DX12_settle 44 rfl) (by decide) ?_
        refine lv_isub hx hb (dk DX12_settle 45 rfl) ?_
        refine lv_topi (fun v5 ev5 => ?_)
        have h := h v5 ev5
        refine pM_18 X hP hD hS lk143 (dk DX12_settle 46 rfl) (fun S6 eS6 H locs hP hD hS => ?_)
        have h := h S6 eS6
        refine lv_goto (tgt := 0) hx hb (dk DX12_settle 47 rfl) (by decide) ?_
        exact hK0 x1 S6 h _ _ hP hD hS ls (lv_sub hl [0, 1] rfl)
      · have h := h.2 hc
        refine lv_aload_n hx hb (dk DX12_settle 34 rfl) rfl (lv_at hl 0 rfl) ?_
        refine gM X hP 16 (by decide) rfl lk29 (dk DX12_settle 35 rfl) ?_
        refine lv_aload_n hx hb (dk DX12_settle 36 rfl) rfl (lv_at hl 0 rfl) ?_
        refine gM X hP 17 (by decide) rfl lk133 (dk DX12_settle 37 rfl) ?_
        obtain ⟨hin, h⟩ := h
        refine ldM X hP 5 rfl hin (dk DX12_settle 38 rfl) ?_
        refine lv_bipush (v := 20) hx hb (dk DX12_settle 39 rfl) (by decide) ?_
        refine lv_icmp_ne (tgt := 0) hx hb (dk DX12_settle 40 rfl) (by decide) (fun hc => ?_) (fun hc => ?_)
        · have h := h.1 hc
          exact hK0 x1 S4 h _ _ hP hD hS ls (lv_sub hl [0, 1] rfl)
        · have h := h.2 hc
          refine lv_aload_n hx hb (dk DX12_settle 41 rfl) rfl (lv_at hl 0 rfl) ?_
          refine lv_dup hx hb (dk DX12_settle 42 rfl) rfl ?_
          refine gM X hP 18 (by decide) rfl lk143 (dk DX12_settle 43 rfl) ?_
          refine lv_iconst (v := 1) hx hb (dk DX12_settle 44 rfl) (by decide) ?_
          refine lv_isub hx hb (dk DX12_settle 45 rfl) ?_
          refine lv_topi (fun v7 ev7 => ?_)
          have h := h v7 ev7
          refine pM_18 X hP hD hS lk143 (dk DX12_settle 46 rfl) (fun S8 eS8 H locs hP hD hS => ?_)
          have h := h S8 eS8
          refine lv_goto (tgt := 0) hx hb (dk DX12_settle 47 rfl) (by decide) ?_
          exact hK0 x1 S8 h _ _ hP hD hS ls (lv_sub hl [0, 1] rfl)
set_option maxHeartbeats 4000000 in
set_option maxRecDepth 100000 in
theorem m_settle {l : Launch} {dC : Nat → ClassId} {dI : Nat → Nat → Nat} {q : Nat → Nat} {cI cJ cZ : ClassId} {sz : Nat} {Post : MS → Prop} (a0 : Int32) (S : MS) (h : VC_settle Post a0 S) : Met l yX12_settle ww_settle ({ frames := 1, cells := 0, slots := 0, locals := 22 } : Room) (va_Pc [.ref (q 0), .int a0] (preM dC dI q cI cJ cZ S sz)) (va_Qv Post (atM dC dI q cI cJ cZ (va_A (wM q cI cJ cZ S) sz)) (va_A (wM q cI cJ cZ S) sz)) 0 0 (va_A (wM q cI cJ cZ S) sz) := by
  refine oM (cc := cX12_settle) (maxL := 2) (ret := none) (Qc := fun A => va_Qv Post (atM dC dI q cI cJ cZ A) A) (by decide) rfl (fun w h => List.mem_cons_of_mem _ (List.mem_append_right _ h)) rfl (Nat.le_of_ble_eq_true rfl) (fun p e s m below meth c A ls X hr hlocks hP hD hS hl => ?_)
  have hx := X.1
  have hb := X.2.1
  have hl : lv_has ls 2 [(0, .ref (q 0)), (1, .int a0)] := hl
  have lk133 := X.2.2.2.2.1 (.fieldLink RX12 133 "BreathOnLoanModel" "piled" "I") (inW 95 rfl)
  have lk29 := X.2.2.2.2.1 (.fieldLink RX12 29 "BreathOnLoanModel" "pile" "[I") (inW 11 rfl)
  have lk143 := X.2.2.2.2.1 (.fieldLink RX12 143 "BreathOnLoanModel" "opens" "I") (inW 98 rfl)
  generalize hargs : ([.ref (q 0), .int a0] : List Value).toArray = args at X ⊢
  have h := h (fun hd S => match hd with | x1 => ∀ (H : Heap) (locs : List Loc), va_P (dC, dI) vwCl (wM q cI cJ cZ S) H → va_D A (wM q cI cJ cZ S) → va_S A s.heap H locs → ∀ ls : Array Slot, lv_has ls 2 [(0, .ref (q 0)), (1, .int x1)] → W p l e (headSpec ww_settle ({ frames := 1, cells := 0, slots := 0, locals := 22 } : Room)).room s m args below meth c H locs 0 0 (MQ below (va_Qv Post (atM dC dI q cI cJ cZ A) A) args s 0 0 A) (F0 m 0 ls [])) ?_
  · skip
    exact h _ _ hP hD hS ls (lv_sub hl [0, 1] rfl)
  · rintro x1 S hB
    exact h_settle_0 X hr hlocks (hK0 := fun _ _ h => h) x1 S hB

def ww_whole : List Cond := .code yX12_whole cX12_whole 1 none :: (WdM ++ wsX120)
theorem q_whole : yX12_whole.cls = RX12 ∧ yX12_whole.cls ≠ "java/lang/invoke/MethodHandle" ∧ yX12_whole.cls ≠ "java/lang/invoke/VarHandle" ∧ (parseMethodDescriptor yX12_whole.desc).map (fun d => d.parameters.length) = some 0 := by decide +kernel
def VC_whole (Post : MS → Prop) (S : MS) : Prop := ∀ S1 : MS, S1 = sI S 19 1 → VC_settle (fun S2 => Post S2) 7 S1
set_option maxHeartbeats 4000000 in
set_option maxRecDepth 100000 in
theorem m_whole {l : Launch} {dC : Nat → ClassId} {dI : Nat → Nat → Nat} {q : Nat → Nat} {cI cJ cZ : ClassId} {sz : Nat} {Post : MS → Prop} (S : MS) (h : VC_whole Post S) : Met l yX12_whole ww_whole ({ frames := 2, cells := 0, slots := 0, locals := 43 } : Room) (va_Pc [.ref (q 0)] (preM dC dI q cI cJ cZ S sz)) (va_Qv Post (atM dC dI q cI cJ cZ (va_A (wM q cI cJ cZ S) sz)) (va_A (wM q cI cJ cZ S) sz)) 0 0 (va_A (wM q cI cJ cZ S) sz) := by
  refine oM (cc := cX12_whole) (maxL := 1) (ret := none) (Qc := fun A => va_Qv Post (atM dC dI q cI cJ cZ A) A) (by decide) rfl (fun w h => List.mem_cons_of_mem _ (List.mem_append_right _ h)) rfl (Nat.le_of_ble_eq_true rfl) (fun p e s m below meth c A ls X hr hlocks hP hD hS hl => ?_)
  have hx := X.1
  have hb := X.2.1
  have hl : lv_has ls 1 [(0, .ref (q 0))] := hl
  have lk146 := X.2.2.2.2.1 (.fieldLink RX12 146 "BreathOnLoanModel" "isWhole" "Z") (inW 105 rfl)
  dsimp only [VC_whole] at h
  refine lv_aload_n hx hb (dk DX12_whole 0 rfl) rfl (lv_at hl 0 rfl) ?_
  refine lv_iconst (v := 1) hx hb (dk DX12_whole 1 rfl) (by decide) ?_
  refine pM_19 X hP hD hS (by decide) (by decide) lk146 (dk DX12_whole 2 rfl) (fun S1 eS1 H locs hP hD hS => ?_)
  have h := h S1 eS1
  refine lv_aload_n hx hb (dk DX12_whole 3 rfl) rfl (lv_at hl 0 rfl) ?_
  refine lv_bipush (v := 7) hx hb (dk DX12_whole 4 rfl) (by decide) ?_
  refine cMv (As := [.int 7]) (rest := []) X (m_settle (l := l) (dC := dC) (dI := dI) (q := q) (cI := cI) (cJ := cJ) (cZ := cZ) (sz := _) 7 S1 h) (cwV 1 X.2.2.2.2.1 (gwV 106 107 108 24 97 rfl rfl rfl rfl rfl) rfl rfl rfl q_settle ⟨Nat.le_of_ble_eq_true rfl, Nat.le_of_ble_eq_true rfl⟩) hP hD hS rfl hl.1 rfl (Nat.le_of_ble_eq_true rfl) (dk DX12_whole 5 rfl) (fun S2 H locs h hP hD hS => ?_)
  exact W.vret hx hb hr (fun t ht hW => ⟨⟨_, rfl, h, by rw [ht]; exact hP, va_K.moved hW.alike X.2.2.2.2.2.2.1, hD⟩, hS.F ht⟩) hS.2.2 (dk DX12_whole 6 rfl)

def ww_marker : List Cond := .code yX12_marker cX12_marker 2 (some .int) :: (WdM ++ wsX120)
theorem q_marker : yX12_marker.cls = RX12 ∧ yX12_marker.cls ≠ "java/lang/invoke/MethodHandle" ∧ yX12_marker.cls ≠ "java/lang/invoke/VarHandle" ∧ (parseMethodDescriptor yX12_marker.desc).map (fun d => d.parameters.length) = some 0 := by decide +kernel
abbrev Hd_marker : Type := (Int32)
def B_marker (Post : Int32 → MS → Prop) (K : Hd_marker → MS → Prop) : Hd_marker → MS → Prop
  | x1, S => ((x1 < 0 → Post x1 S) ∧ (¬ x1 < 0 → vp_in x1 160 ∧ ((40 ≤ ((S.2.2.1 16) x1.toNatClampNeg) → Post x1 S) ∧ (¬ 40 ≤ ((S.2.2.1 16) x1.toNatClampNeg) → ∀ v2 : Int32, v2 = x1 + (-1) → K v2 S))))
def VC_marker (Post : Int32 → MS → Prop) (S : MS) : Prop := ∀ K : Hd_marker → MS → Prop, (∀ h S, B_marker Post K h S → K h S) → ∀ v1 : Int32, v1 = (S.1 17) - 1 → K v1 S
set_option maxHeartbeats 4000000 in
set_option maxRecDepth 100000 in
theorem h_marker_0 {p : Program} {l : Launch} {e : Env} {s : State} {m : MethodId} {below : List Frame} {meth : Method} {c : Code} {dC : Nat → ClassId} {dI : Nat → Nat → Nat} {q : Nat → Nat} {cI cJ cZ : ClassId} {A : Nat → Prop} {args : Array Value} {Post : Int32 → MS → Prop} {K : Hd_marker → MS → Prop} (X : XM p s m args c cX12_marker 2 ww_marker dC dI cI cJ cZ A) (hr : meth.sig.returnType = (some .int)) (hlocks : meth.locks = false) (hK0 : ∀ (x1 : Int32) (S : MS), K x1 S → ∀ (H : Heap) (locs : List Loc), va_P (dC, dI) vwCl (wM q cI cJ cZ S) H → va_D A (wM q cI cJ cZ S) → va_S A s.heap H locs → ∀ ls : Array Slot, lv_has ls 2 [(0, .ref (q 0)), (1, .int x1)] → W p l e (headSpec ww_marker ({ frames := 0, cells := 0, slots := 0, locals := 0 } : Room)).room s m args below meth c H locs 0 0 (MQ below (va_Qi Post (atM dC dI q cI cJ cZ A) A) args s 0 0 A) (F0 m 7 ls [])) (x1 : Int32) (S : MS) (h : B_marker Post K x1 S) : ∀ (H : Heap) (locs : List Loc), va_P (dC, dI) vwCl (wM q cI cJ cZ S) H → va_D A (wM q cI cJ cZ S) → va_S A s.heap H locs → ∀ ls : Array Slot, lv_has ls 2 [(0, .ref (q 0)), (1, .int x1)] → W p l e (headSpec ww_marker ({ frames := 0, cells := 0, slots := 0, locals := 0 } : Room)).room s m args below meth c H locs 0 0 (MQ below (va_Qi Post (atM dC dI q cI cJ cZ A) A) args s 0 0 A) (F0 m 7 ls []) := by
  have hx := X.1
  have hb := X.2.1
  intro H locs hP hD hS ls hl
  have lk133 := X.2.2.2.2.1 (.fieldLink RX12 133 "BreathOnLoanModel" "piled" "I") (inW 95 rfl)
  have lk29 := X.2.2.2.2.1 (.fieldLink RX12 29 "BreathOnLoanModel" "pile" "[I") (inW 11 rfl)
  dsimp only [B_marker] at h
  refine lv_iload_n hx hb (dk DX12_marker 5 rfl) rfl (lv_at hl 1 rfl) ?_
  refine lv_if_lt (tgt := 28) hx hb (dk DX12_marker 6 rfl) (by decide) (fun hc => ?_) (fun hc => ?_)
  · have h := h.1 hc
    refine lv_iload_n hx hb (dk DX12_marker 15 rfl) rfl (lv_at hl 1 rfl) ?_
    exact W.iret (v := x1) hx hb hr (fun t ht hW => ⟨⟨_, _, rfl, h, by rw [ht]; exact hP, va_K.moved hW.alike X.2.2.2.2.2.2.1, hD⟩, hS.F ht⟩) hS.2.2 (dk DX12_marker 16 rfl)
  · have h := h.2 hc
    refine lv_aload_n hx hb (dk DX12_marker 7 rfl) rfl (lv_at hl 0 rfl) ?_
    refine gM X hP 16 (by decide) rfl lk29 (dk DX12_marker 8 rfl) ?_
    refine lv_iload_n hx hb (dk DX12_marker 9 rfl) rfl (lv_at hl 1 rfl) ?_
    obtain ⟨hin, h⟩ := h
    refine ldM X hP 5 rfl hin (dk DX12_marker 10 rfl) ?_
    refine lv_bipush (v := 40) hx hb (dk DX12_marker 11 rfl) (by decide) ?_
    refine lv_icmp_ge (tgt := 28) hx hb (dk DX12_marker 12 rfl) (by decide) (fun hc => ?_) (fun hc => ?_)
    · have h := h.1 hc
      refine lv_iload_n hx hb (dk DX12_marker 15 rfl) rfl (lv_at hl 1 rfl) ?_
      exact W.iret (v := x1) hx hb hr (fun t ht hW => ⟨⟨_, _, rfl, h, by rw [ht]; exact hP, va_K.moved hW.alike X.2.2.2.2.2.2.1, hD⟩, hS.F ht⟩) hS.2.2 (dk DX12_marker 16 rfl)
    · have h := h.2 hc
      obtain ⟨v2, ev2⟩ : ∃ y : Int32, y = x1 + (-1) := ⟨_, rfl⟩
      have h := h v2 ev2
      refine lv_iinc (v := v2) (lv' := [(1, .int v2), (0, .ref (q 0))]) hx hb (dk DX12_marker 13 rfl) hl (k := 1) rfl (by rw [ev2]; rfl) (by decide) rfl (fun ls hl => ?_)
      refine lv_goto (tgt := 7) hx hb (dk DX12_marker 14 rfl) (by decide) ?_
      exact hK0 v2 S h _ _ hP hD hS ls (lv_sub hl [1, 0] rfl)
set_option maxHeartbeats 4000000 in
set_option maxRecDepth 100000 in
theorem m_marker {l : Launch} {dC : Nat → ClassId} {dI : Nat → Nat → Nat} {q : Nat → Nat} {cI cJ cZ : ClassId} {sz : Nat} {Post : Int32 → MS → Prop} (S : MS) (h : VC_marker Post S) : Met l yX12_marker ww_marker ({ frames := 0, cells := 0, slots := 0, locals := 0 } : Room) (va_Pc [.ref (q 0)] (preM dC dI q cI cJ cZ S sz)) (va_Qi Post (atM dC dI q cI cJ cZ (va_A (wM q cI cJ cZ S) sz)) (va_A (wM q cI cJ cZ S) sz)) 0 0 (va_A (wM q cI cJ cZ S) sz) := by
  refine oM (cc := cX12_marker) (maxL := 2) (ret := (some .int)) (Qc := fun A => va_Qi Post (atM dC dI q cI cJ cZ A) A) (by decide) rfl (fun w h => List.mem_cons_of_mem _ (List.mem_append_right _ h)) rfl (Nat.le_of_ble_eq_true rfl) (fun p e s m below meth c A ls X hr hlocks hP hD hS hl => ?_)
  have hx := X.1
  have hb := X.2.1
  have hl : lv_has ls 2 [(0, .ref (q 0))] := hl
  have lk133 := X.2.2.2.2.1 (.fieldLink RX12 133 "BreathOnLoanModel" "piled" "I") (inW 95 rfl)
  have lk29 := X.2.2.2.2.1 (.fieldLink RX12 29 "BreathOnLoanModel" "pile" "[I") (inW 11 rfl)
  generalize hargs : ([.ref (q 0)] : List Value).toArray = args at X ⊢
  have h := h (fun hd S => match hd with | x1 => ∀ (H : Heap) (locs : List Loc), va_P (dC, dI) vwCl (wM q cI cJ cZ S) H → va_D A (wM q cI cJ cZ S) → va_S A s.heap H locs → ∀ ls : Array Slot, lv_has ls 2 [(0, .ref (q 0)), (1, .int x1)] → W p l e (headSpec ww_marker ({ frames := 0, cells := 0, slots := 0, locals := 0 } : Room)).room s m args below meth c H locs 0 0 (MQ below (va_Qi Post (atM dC dI q cI cJ cZ A) A) args s 0 0 A) (F0 m 7 ls [])) ?_
  · skip
    refine lv_aload_n hx hb (dk DX12_marker 0 rfl) rfl (lv_at hl 0 rfl) ?_
    refine gM X hP 17 (by decide) rfl lk133 (dk DX12_marker 1 rfl) ?_
    refine lv_iconst (v := 1) hx hb (dk DX12_marker 2 rfl) (by decide) ?_
    refine lv_isub hx hb (dk DX12_marker 3 rfl) ?_
    refine lv_topi (fun v1 ev1 => ?_)
    have h := h v1 ev1
    refine lv_istore_n (lv' := [(1, .int v1), (0, .ref (q 0))]) hx hb (dk DX12_marker 4 rfl) rfl hl (by decide) rfl (fun ls hl => ?_)
    exact h _ _ hP hD hS ls (lv_sub hl [1, 0] rfl)
  · rintro x1 S hB
    exact h_marker_0 X hr hlocks (hK0 := fun _ _ h => h) x1 S hB

def ww_kindOpen : List Cond := .code yX12_kindOpen cX12_kindOpen 3 (some .int) :: (WdM ++ wsX120)
theorem q_kindOpen : yX12_kindOpen.cls = RX12 ∧ yX12_kindOpen.cls ≠ "java/lang/invoke/MethodHandle" ∧ yX12_kindOpen.cls ≠ "java/lang/invoke/VarHandle" ∧ (parseMethodDescriptor yX12_kindOpen.desc).map (fun d => d.parameters.length) = some 1 := by decide +kernel
def VC_kindOpen (Post : Int32 → MS → Prop) (a0 : Int32) (S : MS) : Prop := VC_marker (fun r2 S1 => ((r2 < 0 → ((a0 = 0 → Post 40 S1) ∧ (¬ a0 = 0 → Post 41 S1))) ∧ (¬ r2 < 0 → vp_in r2 160 ∧ Post ((S1.2.2.1 16) r2.toNatClampNeg) S1))) S
set_option maxHeartbeats 4000000 in
set_option maxRecDepth 100000 in
theorem m_kindOpen {l : Launch} {dC : Nat → ClassId} {dI : Nat → Nat → Nat} {q : Nat → Nat} {cI cJ cZ : ClassId} {sz : Nat} {Post : Int32 → MS → Prop} (a0 : Int32) (S : MS) (h : VC_kindOpen Post a0 S) : Met l yX12_kindOpen ww_kindOpen ({ frames := 1, cells := 0, slots := 0, locals := 21 } : Room) (va_Pc [.ref (q 0), .int a0] (preM dC dI q cI cJ cZ S sz)) (va_Qi Post (atM dC dI q cI cJ cZ (va_A (wM q cI cJ cZ S) sz)) (va_A (wM q cI cJ cZ S) sz)) 0 0 (va_A (wM q cI cJ cZ S) sz) := by
  refine oM (cc := cX12_kindOpen) (maxL := 3) (ret := (some .int)) (Qc := fun A => va_Qi Post (atM dC dI q cI cJ cZ A) A) (by decide) rfl (fun w h => List.mem_cons_of_mem _ (List.mem_append_right _ h)) rfl (Nat.le_of_ble_eq_true rfl) (fun p e s m below meth c A ls X hr hlocks hP hD hS hl => ?_)
  have hx := X.1
  have hb := X.2.1
  have hl : lv_has ls 3 [(0, .ref (q 0)), (1, .int a0)] := hl
  have lk29 := X.2.2.2.2.1 (.fieldLink RX12 29 "BreathOnLoanModel" "pile" "[I") (inW 11 rfl)
  dsimp only [VC_kindOpen] at h
  refine lv_aload_n hx hb (dk DX12_kindOpen 0 rfl) rfl (lv_at hl 0 rfl) ?_
  refine cMi (As := []) (rest := []) X (m_marker (l := l) (dC := dC) (dI := dI) (q := q) (cI := cI) (cJ := cJ) (cZ := cZ) (sz := _) S h) (cwV 0 X.2.2.2.2.1 (gwV 111 112 113 24 109 rfl rfl rfl rfl rfl) rfl rfl rfl q_marker ⟨Nat.le_of_ble_eq_true rfl, Nat.le_of_ble_eq_true rfl⟩) hP hD hS rfl hl.1 rfl (Nat.le_of_ble_eq_true rfl) (dk DX12_kindOpen 1 rfl) (fun r2 S1 H locs h hP hD hS => ?_)
  refine lv_istore_n (lv' := [(2, .int r2), (0, .ref (q 0)), (1, .int a0)]) hx hb (dk DX12_kindOpen 2 rfl) rfl hl (by decide) rfl (fun ls hl => ?_)
  refine lv_iload_n hx hb (dk DX12_kindOpen 3 rfl) rfl (lv_at hl 0 rfl) ?_
  refine lv_if_lt (tgt := 18) hx hb (dk DX12_kindOpen 4 rfl) (by decide) (fun hc => ?_) (fun hc => ?_)
  · have h := h.1 hc
    refine lv_iload_n hx hb (dk DX12_kindOpen 10 rfl) rfl (lv_at hl 2 rfl) ?_
    refine lv_if_eq (tgt := 27) hx hb (dk DX12_kindOpen 11 rfl) (by decide) (fun hc => ?_) (fun hc => ?_)
    · have h := h.1 hc
      refine lv_bipush (v := 40) hx hb (dk DX12_kindOpen 14 rfl) (by decide) ?_
      exact W.iret (v := 40) hx hb hr (fun t ht hW => ⟨⟨_, _, rfl, h, by rw [ht]; exact hP, va_K.moved hW.alike X.2.2.2.2.2.2.1, hD⟩, hS.F ht⟩) hS.2.2 (dk DX12_kindOpen 15 rfl)
    · have h := h.2 hc
      refine lv_bipush (v := 41) hx hb (dk DX12_kindOpen 12 rfl) (by decide) ?_
      refine lv_goto (tgt := 29) hx hb (dk DX12_kindOpen 13 rfl) (by decide) ?_
      exact W.iret (v := 41) hx hb hr (fun t ht hW => ⟨⟨_, _, rfl, h, by rw [ht]; exact hP, va_K.moved hW.alike X.2.2.2.2.2.2.1, hD⟩, hS.F ht⟩) hS.2.2 (dk DX12_kindOpen 15 rfl)
  · have h := h.2 hc
    refine lv_aload_n hx hb (dk DX12_kindOpen 5 rfl) rfl (lv_at hl 1 rfl) ?_
    refine gM X hP 16 (by decide) rfl lk29 (dk DX12_kindOpen 6 rfl) ?_
    refine lv_iload_n hx hb (dk DX12_kindOpen 7 rfl) rfl (lv_at hl 0 rfl) ?_
    obtain ⟨hin, h⟩ := h
    refine ldM X hP 5 rfl hin (dk DX12_kindOpen 8 rfl) ?_
    refine lv_goto (tgt := 29) hx hb (dk DX12_kindOpen 9 rfl) (by decide) ?_
    exact W.iret (v := (S1.2.2.1 16) r2.toNatClampNeg) hx hb hr (fun t ht hW => ⟨⟨_, _, rfl, h, by rw [ht]; exact hP, va_K.moved hW.alike X.2.2.2.2.2.2.1, hD⟩, hS.F ht⟩) hS.2.2 (dk DX12_kindOpen 15 rfl)

def ww_isCompared : List Cond := .code yX12_isCompared cX12_isCompared 2 (some .boolean) :: (WdM ++ wsX120)
theorem q_isCompared : yX12_isCompared.cls = RX12 ∧ yX12_isCompared.cls ≠ "java/lang/invoke/MethodHandle" ∧ yX12_isCompared.cls ≠ "java/lang/invoke/VarHandle" ∧ (parseMethodDescriptor yX12_isCompared.desc).map (fun d => d.parameters.length) = some 0 := by decide +kernel
abbrev Hd_isCompared : Type := (Int32) ⊕ (Int32)
def B_isCompared (Post : Int32 → MS → Prop) (K : Hd_isCompared → MS → Prop) : Hd_isCompared → MS → Prop
  | (.inl x1), S => ((x1 < 0 → K (.inr x1) S) ∧ (¬ x1 < 0 → vp_in x1 160 ∧ VC_rank (fun r2 => ((r2 ≤ 4 → K (.inr x1) S) ∧ (¬ r2 ≤ 4 → ∀ v3 : Int32, v3 = x1 + (-1) → K (.inl v3) S))) ((S.2.2.1 16) x1.toNatClampNeg)))
  | (.inr x1), S => ((x1 < 0 → Post 0 S) ∧ (¬ x1 < 0 → vp_in x1 160 ∧ VC_rank (fun r4 => ((¬ r4 = 4 → Post 0 S) ∧ (r4 = 4 → Post 1 S))) ((S.2.2.1 16) x1.toNatClampNeg)))
def VC_isCompared (Post : Int32 → MS → Prop) (S : MS) : Prop := ∀ K : Hd_isCompared → MS → Prop, (∀ h S, B_isCompared Post K h S → K h S) → ∀ v1 : Int32, v1 = (S.1 17) - 1 → K (.inl v1) S
set_option maxHeartbeats 4000000 in
set_option maxRecDepth 100000 in
theorem h_isCompared_0 {p : Program} {l : Launch} {e : Env} {s : State} {m : MethodId} {below : List Frame} {meth : Method} {c : Code} {dC : Nat → ClassId} {dI : Nat → Nat → Nat} {q : Nat → Nat} {cI cJ cZ : ClassId} {A : Nat → Prop} {args : Array Value} {Post : Int32 → MS → Prop} {K : Hd_isCompared → MS → Prop} (X : XM p s m args c cX12_isCompared 2 ww_isCompared dC dI cI cJ cZ A) (hr : meth.sig.returnType = (some .boolean)) (hlocks : meth.locks = false) (hK0 : ∀ (x1 : Int32) (S : MS), K (.inl x1) S → ∀ (H : Heap) (locs : List Loc), va_P (dC, dI) vwCl (wM q cI cJ cZ S) H → va_D A (wM q cI cJ cZ S) → va_S A s.heap H locs → ∀ ls : Array Slot, lv_has ls 2 [(0, .ref (q 0)), (1, .int x1)] → W p l e (headSpec ww_isCompared ({ frames := 1, cells := 0, slots := 0, locals := 20 } : Room)).room s m args below meth c H locs 0 0 (MQ below (va_Qi Post (atM dC dI q cI cJ cZ A) A) args s 0 0 A) (F0 m 7 ls [])) (hK1 : ∀ (x1 : Int32) (S : MS), K (.inr x1) S → ∀ (H : Heap) (locs : List Loc), va_P (dC, dI) vwCl (wM q cI cJ cZ S) H → va_D A (wM q cI cJ cZ S) → va_S A s.heap H locs → ∀ ls : Array Slot, lv_has ls 2 [(0, .ref (q 0)), (1, .int x1)] → W p l e (headSpec ww_isCompared ({ frames := 1, cells := 0, slots := 0, locals := 20 } : Room)).room s m args below meth c H locs 0 0 (MQ below (va_Qi Post (atM dC dI q cI cJ cZ A) A) args s 0 0 A) (F0 m 30 ls [])) (x1 : Int32) (S : MS) (h : B_isCompared Post K (.inl x1) S) : ∀ (H : Heap) (locs : List Loc), va_P (dC, dI) vwCl (wM q cI cJ cZ S) H → va_D A (wM q cI cJ cZ S) → va_S A s.heap H locs → ∀ ls : Array Slot, lv_has ls 2 [(0, .ref (q 0)), (1, .int x1)] → W p l e (headSpec ww_isCompared ({ frames := 1, cells := 0, slots := 0, locals := 20 } : Room)).room s m args below meth c H locs 0 0 (MQ below (va_Qi Post (atM dC dI q cI cJ cZ A) A) args s 0 0 A) (F0 m 7 ls []) := by
  have hx := X.1
  have hb := X.2.1
  intro H locs hP hD hS ls hl
  have lk133 := X.2.2.2.2.1 (.fieldLink RX12 133 "BreathOnLoanModel" "piled" "I") (inW 95 rfl)
  have lk29 := X.2.2.2.2.1 (.fieldLink RX12 29 "BreathOnLoanModel" "pile" "[I") (inW 11 rfl)
  dsimp only [B_isCompared] at h
  refine lv_iload_n hx hb (dk DX12_isCompared 5 rfl) rfl (lv_at hl 1 rfl) ?_
  refine lv_if_lt (tgt := 30) hx hb (dk DX12_isCompared 6 rfl) (by decide) (fun hc => ?_) (fun hc => ?_)
  · have h := h.1 hc
    exact hK1 x1 S h _ _ hP hD hS ls (lv_sub hl [0, 1] rfl)
  · have h := h.2 hc
    refine lv_aload_n hx hb (dk DX12_isCompared 7 rfl) rfl (lv_at hl 0 rfl) ?_
    refine gM X hP 16 (by decide) rfl lk29 (dk DX12_isCompared 8 rfl) ?_
    refine lv_iload_n hx hb (dk DX12_isCompared 9 rfl) rfl (lv_at hl 1 rfl) ?_
    obtain ⟨hin, h⟩ := h
    refine ldM X hP 5 rfl hin (dk DX12_isCompared 10 rfl) ?_
    refine cSi (As := [.int ((S.2.2.1 16) x1.toNatClampNeg)]) (rest := []) ⟨X.1, X.2.1, X.2.2.1, X.2.2.2.1, X.2.2.2.2.1⟩ (m_rank (l := l) ((S.2.2.1 16) x1.toNatClampNeg) h) (va_cwS 1 X.2.2.2.2.1 (gwS 99 100 24 96 rfl rfl rfl rfl) rfl rfl rfl q_rank ⟨Nat.le_of_ble_eq_true rfl, Nat.le_of_ble_eq_true rfl⟩) rfl hl.1 rfl (Nat.le_of_ble_eq_true rfl) (dk DX12_isCompared 11 rfl) (fun r2 h => ?_)
    refine lv_iconst (v := 4) hx hb (dk DX12_isCompared 12 rfl) (by decide) ?_
    refine lv_icmp_le (tgt := 30) hx hb (dk DX12_isCompared 13 rfl) (by decide) (fun hc => ?_) (fun hc => ?_)
    · have h := h.1 hc
      exact hK1 x1 S h _ _ hP hD hS ls (lv_sub hl [0, 1] rfl)
    · have h := h.2 hc
      obtain ⟨v3, ev3⟩ : ∃ y : Int32, y = x1 + (-1) := ⟨_, rfl⟩
      have h := h v3 ev3
      refine lv_iinc (v := v3) (lv' := [(1, .int v3), (0, .ref (q 0))]) hx hb (dk DX12_isCompared 14 rfl) hl (k := 1) rfl (by rw [ev3]; rfl) (by decide) rfl (fun ls hl => ?_)
      refine lv_goto (tgt := 7) hx hb (dk DX12_isCompared 15 rfl) (by decide) ?_
      exact hK0 v3 S h _ _ hP hD hS ls (lv_sub hl [1, 0] rfl)
set_option maxHeartbeats 4000000 in
set_option maxRecDepth 100000 in
theorem h_isCompared_1 {p : Program} {l : Launch} {e : Env} {s : State} {m : MethodId} {below : List Frame} {meth : Method} {c : Code} {dC : Nat → ClassId} {dI : Nat → Nat → Nat} {q : Nat → Nat} {cI cJ cZ : ClassId} {A : Nat → Prop} {args : Array Value} {Post : Int32 → MS → Prop} {K : Hd_isCompared → MS → Prop} (X : XM p s m args c cX12_isCompared 2 ww_isCompared dC dI cI cJ cZ A) (hr : meth.sig.returnType = (some .boolean)) (hlocks : meth.locks = false) (hK0 : ∀ (x1 : Int32) (S : MS), K (.inl x1) S → ∀ (H : Heap) (locs : List Loc), va_P (dC, dI) vwCl (wM q cI cJ cZ S) H → va_D A (wM q cI cJ cZ S) → va_S A s.heap H locs → ∀ ls : Array Slot, lv_has ls 2 [(0, .ref (q 0)), (1, .int x1)] → W p l e (headSpec ww_isCompared ({ frames := 1, cells := 0, slots := 0, locals := 20 } : Room)).room s m args below meth c H locs 0 0 (MQ below (va_Qi Post (atM dC dI q cI cJ cZ A) A) args s 0 0 A) (F0 m 7 ls [])) (hK1 : ∀ (x1 : Int32) (S : MS), K (.inr x1) S → ∀ (H : Heap) (locs : List Loc), va_P (dC, dI) vwCl (wM q cI cJ cZ S) H → va_D A (wM q cI cJ cZ S) → va_S A s.heap H locs → ∀ ls : Array Slot, lv_has ls 2 [(0, .ref (q 0)), (1, .int x1)] → W p l e (headSpec ww_isCompared ({ frames := 1, cells := 0, slots := 0, locals := 20 } : Room)).room s m args below meth c H locs 0 0 (MQ below (va_Qi Post (atM dC dI q cI cJ cZ A) A) args s 0 0 A) (F0 m 30 ls [])) (x1 : Int32) (S : MS) (h : B_isCompared Post K (.inr x1) S) : ∀ (H : Heap) (locs : List Loc), va_P (dC, dI) vwCl (wM q cI cJ cZ S) H → va_D A (wM q cI cJ cZ S) → va_S A s.heap H locs → ∀ ls : Array Slot, lv_has ls 2 [(0, .ref (q 0)), (1, .int x1)] → W p l e (headSpec ww_isCompared ({ frames := 1, cells := 0, slots := 0, locals := 20 } : Room)).room s m args below meth c H locs 0 0 (MQ below (va_Qi Post (atM dC dI q cI cJ cZ A) A) args s 0 0 A) (F0 m 30 ls []) := by
  have hx := X.1
  have hb := X.2.1
  intro H locs hP hD hS ls hl
  have lk133 := X.2.2.2.2.1 (.fieldLink RX12 133 "BreathOnLoanModel" "piled" "I") (inW 95 rfl)
  have lk29 := X.2.2.2.2.1 (.fieldLink RX12 29 "BreathOnLoanModel" "pile" "[I") (inW 11 rfl)
  dsimp only [B_isCompared] at h
  refine lv_iload_n hx hb (dk DX12_isCompared 16 rfl) rfl (lv_at hl 1 rfl) ?_
  refine lv_if_lt (tgt := 51) hx hb (dk DX12_isCompared 17 rfl) (by decide) (fun hc => ?_) (fun hc => ?_)
  · have h := h.1 hc
    refine lv_iconst (v := 0) hx hb (dk DX12_isCompared 27 rfl) (by decide) ?_
    exact W.zret (v := 0) hx hb hr (by decide) (fun t ht hW => ⟨⟨_, _, rfl, h, by rw [ht]; exact hP, va_K.moved hW.alike X.2.2.2.2.2.2.1, hD⟩, hS.F ht⟩) hS.2.2 (dk DX12_isCompared 28 rfl)
  · have h := h.2 hc
    refine lv_aload_n hx hb (dk DX12_isCompared 18 rfl) rfl (lv_at hl 0 rfl) ?_
    refine gM X hP 16 (by decide) rfl lk29 (dk DX12_isCompared 19 rfl) ?_
    refine lv_iload_n hx hb (dk DX12_isCompared 20 rfl) rfl (lv_at hl 1 rfl) ?_
    obtain ⟨hin, h⟩ := h
    refine ldM X hP 5 rfl hin (dk DX12_isCompared 21 rfl) ?_
    refine cSi (As := [.int ((S.2.2.1 16) x1.toNatClampNeg)]) (rest := []) ⟨X.1, X.2.1, X.2.2.1, X.2.2.2.1, X.2.2.2.2.1⟩ (m_rank (l := l) ((S.2.2.1 16) x1.toNatClampNeg) h) (va_cwS 1 X.2.2.2.2.1 (gwS 99 100 24 96 rfl rfl rfl rfl) rfl rfl rfl q_rank ⟨Nat.le_of_ble_eq_true rfl, Nat.le_of_ble_eq_true rfl⟩) rfl hl.1 rfl (Nat.le_of_ble_eq_true rfl) (dk DX12_isCompared 22 rfl) (fun r4 h => ?_)
    refine lv_iconst (v := 4) hx hb (dk DX12_isCompared 23 rfl) (by decide) ?_
    refine lv_icmp_ne (tgt := 51) hx hb (dk DX12_isCompared 24 rfl) (by decide) (fun hc => ?_) (fun hc => ?_)
    · have h := h.1 hc
      refine lv_iconst (v := 0) hx hb (dk DX12_isCompared 27 rfl) (by decide) ?_
      exact W.zret (v := 0) hx hb hr (by decide) (fun t ht hW => ⟨⟨_, _, rfl, h, by rw [ht]; exact hP, va_K.moved hW.alike X.2.2.2.2.2.2.1, hD⟩, hS.F ht⟩) hS.2.2 (dk DX12_isCompared 28 rfl)
    · have h := h.2 hc
      refine lv_iconst (v := 1) hx hb (dk DX12_isCompared 25 rfl) (by decide) ?_
      refine lv_goto (tgt := 52) hx hb (dk DX12_isCompared 26 rfl) (by decide) ?_
      exact W.zret (v := 1) hx hb hr (by decide) (fun t ht hW => ⟨⟨_, _, rfl, h, by rw [ht]; exact hP, va_K.moved hW.alike X.2.2.2.2.2.2.1, hD⟩, hS.F ht⟩) hS.2.2 (dk DX12_isCompared 28 rfl)
set_option maxHeartbeats 4000000 in
set_option maxRecDepth 100000 in
theorem m_isCompared {l : Launch} {dC : Nat → ClassId} {dI : Nat → Nat → Nat} {q : Nat → Nat} {cI cJ cZ : ClassId} {sz : Nat} {Post : Int32 → MS → Prop} (S : MS) (h : VC_isCompared Post S) : Met l yX12_isCompared ww_isCompared ({ frames := 1, cells := 0, slots := 0, locals := 20 } : Room) (va_Pc [.ref (q 0)] (preM dC dI q cI cJ cZ S sz)) (va_Qi Post (atM dC dI q cI cJ cZ (va_A (wM q cI cJ cZ S) sz)) (va_A (wM q cI cJ cZ S) sz)) 0 0 (va_A (wM q cI cJ cZ S) sz) := by
  refine oM (cc := cX12_isCompared) (maxL := 2) (ret := (some .boolean)) (Qc := fun A => va_Qi Post (atM dC dI q cI cJ cZ A) A) (by decide) rfl (fun w h => List.mem_cons_of_mem _ (List.mem_append_right _ h)) rfl (Nat.le_of_ble_eq_true rfl) (fun p e s m below meth c A ls X hr hlocks hP hD hS hl => ?_)
  have hx := X.1
  have hb := X.2.1
  have hl : lv_has ls 2 [(0, .ref (q 0))] := hl
  have lk133 := X.2.2.2.2.1 (.fieldLink RX12 133 "BreathOnLoanModel" "piled" "I") (inW 95 rfl)
  have lk29 := X.2.2.2.2.1 (.fieldLink RX12 29 "BreathOnLoanModel" "pile" "[I") (inW 11 rfl)
  generalize hargs : ([.ref (q 0)] : List Value).toArray = args at X ⊢
  have h := h (fun hd S => match hd with | (.inl x1) => ∀ (H : Heap) (locs : List Loc), va_P (dC, dI) vwCl (wM q cI cJ cZ S) H → va_D A (wM q cI cJ cZ S) → va_S A s.heap H locs → ∀ ls : Array Slot, lv_has ls 2 [(0, .ref (q 0)), (1, .int x1)] → W p l e (headSpec ww_isCompared ({ frames := 1, cells := 0, slots := 0, locals := 20 } : Room)).room s m args below meth c H locs 0 0 (MQ below (va_Qi Post (atM dC dI q cI cJ cZ A) A) args s 0 0 A) (F0 m 7 ls []) | (.inr x1) => ∀ (H : Heap) (locs : List Loc), va_P (dC, dI) vwCl (wM q cI cJ cZ S) H → va_D A (wM q cI cJ cZ S) → va_S A s.heap H locs → ∀ ls : Array Slot, lv_has ls 2 [(0, .ref (q 0)), (1, .int x1)] → W p l e (headSpec ww_isCompared ({ frames := 1, cells := 0, slots := 0, locals := 20 } : Room)).room s m args below meth c H locs 0 0 (MQ below (va_Qi Post (atM dC dI q cI cJ cZ A) A) args s 0 0 A) (F0 m 30 ls [])) ?_
  · skip
    refine lv_aload_n hx hb (dk DX12_isCompared 0 rfl) rfl (lv_at hl 0 rfl) ?_
    refine gM X hP 17 (by decide) rfl lk133 (dk DX12_isCompared 1 rfl) ?_
    refine lv_iconst (v := 1) hx hb (dk DX12_isCompared 2 rfl) (by decide) ?_
    refine lv_isub hx hb (dk DX12_isCompared 3 rfl) ?_
    refine lv_topi (fun v1 ev1 => ?_)
    have h := h v1 ev1
    refine lv_istore_n (lv' := [(1, .int v1), (0, .ref (q 0))]) hx hb (dk DX12_isCompared 4 rfl) rfl hl (by decide) rfl (fun ls hl => ?_)
    exact h _ _ hP hD hS ls (lv_sub hl [1, 0] rfl)
  · rintro (x1 | x1) S hB
    · exact h_isCompared_0 X hr hlocks (hK0 := fun _ _ h => h) (hK1 := fun _ _ h => h) x1 S hB
    · exact h_isCompared_1 X hr hlocks (hK0 := fun _ _ h => h) (hK1 := fun _ _ h => h) x1 S hB

def ww_isAskAhead : List Cond := .code yX12_isAskAhead cX12_isAskAhead 2 (some .boolean) :: (WdM ++ wsX120)
theorem q_isAskAhead : yX12_isAskAhead.cls = RX12 ∧ yX12_isAskAhead.cls ≠ "java/lang/invoke/MethodHandle" ∧ yX12_isAskAhead.cls ≠ "java/lang/invoke/VarHandle" ∧ (parseMethodDescriptor yX12_isAskAhead.desc).map (fun d => d.parameters.length) = some 1 := by decide +kernel
def VC_isAskAhead (Post : Int32 → MS → Prop) (a0 : Int32) (S : MS) : Prop := VC_kindOpen (fun r2 S1 => ((¬ r2 = 41 → Post 0 S1) ∧ (r2 = 41 → (((S1.1 17) = 0 → Post 1 S1) ∧ (¬ (S1.1 17) = 0 → vp_in ((S1.1 17) - 1) 160 ∧ ((((S1.2.2.1 16) ((S1.1 17) - 1).toNatClampNeg) = 41 → Post 1 S1) ∧ (¬ ((S1.2.2.1 16) ((S1.1 17) - 1).toNatClampNeg) = 41 → vp_in ((S1.1 17) - 1) 160 ∧ VC_rank (fun r3 => VC_isIn (fun r4 => ((r4 = 0 → Post 0 S1) ∧ (¬ r4 = 0 → Post 1 S1))) r3 1 3) ((S1.2.2.1 16) ((S1.1 17) - 1).toNatClampNeg)))))))) a0 S
set_option maxHeartbeats 4000000 in
set_option maxRecDepth 100000 in
theorem m_isAskAhead {l : Launch} {dC : Nat → ClassId} {dI : Nat → Nat → Nat} {q : Nat → Nat} {cI cJ cZ : ClassId} {sz : Nat} {Post : Int32 → MS → Prop} (a0 : Int32) (S : MS) (h : VC_isAskAhead Post a0 S) : Met l yX12_isAskAhead ww_isAskAhead ({ frames := 2, cells := 0, slots := 0, locals := 43 } : Room) (va_Pc [.ref (q 0), .int a0] (preM dC dI q cI cJ cZ S sz)) (va_Qi Post (atM dC dI q cI cJ cZ (va_A (wM q cI cJ cZ S) sz)) (va_A (wM q cI cJ cZ S) sz)) 0 0 (va_A (wM q cI cJ cZ S) sz) := by
  refine oM (cc := cX12_isAskAhead) (maxL := 2) (ret := (some .boolean)) (Qc := fun A => va_Qi Post (atM dC dI q cI cJ cZ A) A) (by decide) rfl (fun w h => List.mem_cons_of_mem _ (List.mem_append_right _ h)) rfl (Nat.le_of_ble_eq_true rfl) (fun p e s m below meth c A ls X hr hlocks hP hD hS hl => ?_)
  have hx := X.1
  have hb := X.2.1
  have hl : lv_has ls 2 [(0, .ref (q 0)), (1, .int a0)] := hl
  have lk133 := X.2.2.2.2.1 (.fieldLink RX12 133 "BreathOnLoanModel" "piled" "I") (inW 95 rfl)
  have lk29 := X.2.2.2.2.1 (.fieldLink RX12 29 "BreathOnLoanModel" "pile" "[I") (inW 11 rfl)
  dsimp only [VC_isAskAhead] at h
  refine lv_aload_n hx hb (dk DX12_isAskAhead 0 rfl) rfl (lv_at hl 0 rfl) ?_
  refine lv_iload_n hx hb (dk DX12_isAskAhead 1 rfl) rfl (lv_at hl 1 rfl) ?_
  refine cMi (As := [.int a0]) (rest := []) X (m_kindOpen (l := l) (dC := dC) (dI := dI) (q := q) (cI := cI) (cJ := cJ) (cZ := cZ) (sz := _) a0 S h) (cwV 1 X.2.2.2.2.1 (gwV 116 117 118 24 110 rfl rfl rfl rfl rfl) rfl rfl rfl q_kindOpen ⟨Nat.le_of_ble_eq_true rfl, Nat.le_of_ble_eq_true rfl⟩) hP hD hS rfl hl.1 rfl (Nat.le_of_ble_eq_true rfl) (dk DX12_isAskAhead 2 rfl) (fun r2 S1 H locs h hP hD hS => ?_)
  refine lv_bipush (v := 41) hx hb (dk DX12_isAskAhead 3 rfl) (by decide) ?_
  refine lv_icmp_ne (tgt := 59) hx hb (dk DX12_isAskAhead 4 rfl) (by decide) (fun hc => ?_) (fun hc => ?_)
  · have h := h.1 hc
    refine lv_iconst (v := 0) hx hb (dk DX12_isAskAhead 31 rfl) (by decide) ?_
    exact W.zret (v := 0) hx hb hr (by decide) (fun t ht hW => ⟨⟨_, _, rfl, h, by rw [ht]; exact hP, va_K.moved hW.alike X.2.2.2.2.2.2.1, hD⟩, hS.F ht⟩) hS.2.2 (dk DX12_isAskAhead 32 rfl)
  · have h := h.2 hc
    refine lv_aload_n hx hb (dk DX12_isAskAhead 5 rfl) rfl (lv_at hl 0 rfl) ?_
    refine gM X hP 17 (by decide) rfl lk133 (dk DX12_isAskAhead 6 rfl) ?_
    refine lv_if_eq (tgt := 55) hx hb (dk DX12_isAskAhead 7 rfl) (by decide) (fun hc => ?_) (fun hc => ?_)
    · have h := h.1 hc
      refine lv_iconst (v := 1) hx hb (dk DX12_isAskAhead 29 rfl) (by decide) ?_
      refine lv_goto (tgt := 60) hx hb (dk DX12_isAskAhead 30 rfl) (by decide) ?_
      exact W.zret (v := 1) hx hb hr (by decide) (fun t ht hW => ⟨⟨_, _, rfl, h, by rw [ht]; exact hP, va_K.moved hW.alike X.2.2.2.2.2.2.1, hD⟩, hS.F ht⟩) hS.2.2 (dk DX12_isAskAhead 32 rfl)
    · have h := h.2 hc
      refine lv_aload_n hx hb (dk DX12_isAskAhead 8 rfl) rfl (lv_at hl 0 rfl) ?_
      refine gM X hP 16 (by decide) rfl lk29 (dk DX12_isAskAhead 9 rfl) ?_
      refine lv_aload_n hx hb (dk DX12_isAskAhead 10 rfl) rfl (lv_at hl 0 rfl) ?_
      refine gM X hP 17 (by decide) rfl lk133 (dk DX12_isAskAhead 11 rfl) ?_
      refine lv_iconst (v := 1) hx hb (dk DX12_isAskAhead 12 rfl) (by decide) ?_
      refine lv_isub hx hb (dk DX12_isAskAhead 13 rfl) ?_
      obtain ⟨hin, h⟩ := h
      refine ldM X hP 5 rfl hin (dk DX12_isAskAhead 14 rfl) ?_
      refine lv_bipush (v := 41) hx hb (dk DX12_isAskAhead 15 rfl) (by decide) ?_
      refine lv_icmp_eq (tgt := 55) hx hb (dk DX12_isAskAhead 16 rfl) (by decide) (fun hc => ?_) (fun hc => ?_)
      · have h := h.1 hc
        refine lv_iconst (v := 1) hx hb (dk DX12_isAskAhead 29 rfl) (by decide) ?_
        refine lv_goto (tgt := 60) hx hb (dk DX12_isAskAhead 30 rfl) (by decide) ?_
        exact W.zret (v := 1) hx hb hr (by decide) (fun t ht hW => ⟨⟨_, _, rfl, h, by rw [ht]; exact hP, va_K.moved hW.alike X.2.2.2.2.2.2.1, hD⟩, hS.F ht⟩) hS.2.2 (dk DX12_isAskAhead 32 rfl)
      · have h := h.2 hc
        refine lv_aload_n hx hb (dk DX12_isAskAhead 17 rfl) rfl (lv_at hl 0 rfl) ?_
        refine gM X hP 16 (by decide) rfl lk29 (dk DX12_isAskAhead 18 rfl) ?_
        refine lv_aload_n hx hb (dk DX12_isAskAhead 19 rfl) rfl (lv_at hl 0 rfl) ?_
        refine gM X hP 17 (by decide) rfl lk133 (dk DX12_isAskAhead 20 rfl) ?_
        refine lv_iconst (v := 1) hx hb (dk DX12_isAskAhead 21 rfl) (by decide) ?_
        refine lv_isub hx hb (dk DX12_isAskAhead 22 rfl) ?_
        obtain ⟨hin, h⟩ := h
        refine ldM X hP 5 rfl hin (dk DX12_isAskAhead 23 rfl) ?_
        refine cSi (As := [.int ((S1.2.2.1 16) ((S1.1 17) - 1).toNatClampNeg)]) (rest := []) ⟨X.1, X.2.1, X.2.2.1, X.2.2.2.1, X.2.2.2.2.1⟩ (m_rank (l := l) ((S1.2.2.1 16) ((S1.1 17) - 1).toNatClampNeg) h) (va_cwS 1 X.2.2.2.2.1 (gwS 99 100 24 96 rfl rfl rfl rfl) rfl rfl rfl q_rank ⟨Nat.le_of_ble_eq_true rfl, Nat.le_of_ble_eq_true rfl⟩) rfl hl.1 rfl (Nat.le_of_ble_eq_true rfl) (dk DX12_isAskAhead 24 rfl) (fun r3 h => ?_)
        refine lv_iconst (v := 1) hx hb (dk DX12_isAskAhead 25 rfl) (by decide) ?_
        refine lv_iconst (v := 3) hx hb (dk DX12_isAskAhead 26 rfl) (by decide) ?_
        refine cSi (As := [.int r3, .int 1, .int 3]) (rest := []) ⟨X.1, X.2.1, X.2.2.1, X.2.2.2.1, X.2.2.2.2.1⟩ (m_isIn (l := l) r3 1 3 h) (va_cwS 3 X.2.2.2.2.1 (gwS 31 32 24 26 rfl rfl rfl rfl) rfl rfl rfl q_isIn ⟨Nat.le_of_ble_eq_true rfl, Nat.le_of_ble_eq_true rfl⟩) rfl hl.1 rfl (Nat.le_of_ble_eq_true rfl) (dk DX12_isAskAhead 27 rfl) (fun r4 h => ?_)
        refine lv_if_eq (tgt := 59) hx hb (dk DX12_isAskAhead 28 rfl) (by decide) (fun hc => ?_) (fun hc => ?_)
        · have h := h.1 hc
          refine lv_iconst (v := 0) hx hb (dk DX12_isAskAhead 31 rfl) (by decide) ?_
          exact W.zret (v := 0) hx hb hr (by decide) (fun t ht hW => ⟨⟨_, _, rfl, h, by rw [ht]; exact hP, va_K.moved hW.alike X.2.2.2.2.2.2.1, hD⟩, hS.F ht⟩) hS.2.2 (dk DX12_isAskAhead 32 rfl)
        · have h := h.2 hc
          refine lv_iconst (v := 1) hx hb (dk DX12_isAskAhead 29 rfl) (by decide) ?_
          refine lv_goto (tgt := 60) hx hb (dk DX12_isAskAhead 30 rfl) (by decide) ?_
          exact W.zret (v := 1) hx hb hr (by decide) (fun t ht hW => ⟨⟨_, _, rfl, h, by rw [ht]; exact hP, va_K.moved hW.alike X.2.2.2.2.2.2.1, hD⟩, hS.F ht⟩) hS.2.2 (dk DX12_isAskAhead 32 rfl)

