-- X11_within X11_clamp X11_commonDivisor X1_has_2 X1_join_2 X1_setFoes_2 X1_voicesOf_2 J6_bitCount_0f7a4 X1_quarrelsIn_2 X10_has_7 X10_add_7 X0_has_11
def ww_X11_within : List Cond := .code yX11_within cX11_within 3 (some .boolean) :: (WdX ++ WsX)
theorem q_X11_within : yX11_within.cls ≠ "java/lang/invoke/MethodHandle" ∧ yX11_within.cls ≠ "java/lang/invoke/VarHandle" ∧ (parseMethodDescriptor yX11_within.desc).map (fun d => d.parameters.length) = some 3 := by decide +kernel
def VC_X11_within (Post : Int32 → Prop) (a0 : Int32) (a1 : Int32) (a2 : Int32) : Prop := ((a0 < a1 → Post 0) ∧ (¬ a0 < a1 → ((a2 < a0 → Post 0) ∧ (¬ a2 < a0 → Post 1))))
set_option maxHeartbeats 4000000 in
set_option maxRecDepth 100000 in
theorem m_X11_within {l : Launch} {Post : Int32 → Prop} (a0 : Int32) (a1 : Int32) (a2 : Int32) (h : VC_X11_within Post a0 a1 a2) : Met l yX11_within ww_X11_within ({ frames := 0, cells := 0, slots := 0, locals := 0 } : Room) (va_Pc [.int a0, .int a1, .int a2] (fun _ => True)) (vp_Si Post) 0 0 (fun _ => False) := by
  refine oS (cc := cX11_within) (maxL := 3) (ret := (some .boolean)) (Qc := vp_Si Post) (by decide) rfl (Nat.le_of_ble_eq_true rfl) (fun p e s m below meth c ls X hr hlocks hl => ?_)
  have hx := X.1
  have hb := X.2.1
  have hP := trivial
  have hD := trivial
  have hS := trivial
  have hl : lv_has ls 3 [(0, .int a0), (1, .int a1), (2, .int a2)] := hl
  dsimp only [VC_X11_within] at h
  refine lv_iload_n hx hb (dk DX11_within 0 rfl) rfl (lv_at hl 0 rfl) ?_
  refine lv_iload_n hx hb (dk DX11_within 1 rfl) rfl (lv_at hl 1 rfl) ?_
  refine lv_icmp_lt (tgt := 14) hx hb (dk DX11_within 2 rfl) (by decide) (fun hc => ?_) (fun hc => ?_)
  · have h := h.1 hc
    refine lv_iconst (v := 0) hx hb (dk DX11_within 8 rfl) (by decide) ?_
    exact W.zret (v := 0) hx hb hr (by decide) (fun t ht hW => ⟨_, rfl, h, ht⟩) (fun _ h => by cases h) (dk DX11_within 9 rfl)
  · have h := h.2 hc
    refine lv_iload_n hx hb (dk DX11_within 3 rfl) rfl (lv_at hl 0 rfl) ?_
    refine lv_iload_n hx hb (dk DX11_within 4 rfl) rfl (lv_at hl 2 rfl) ?_
    refine lv_icmp_gt (tgt := 14) hx hb (dk DX11_within 5 rfl) (by decide) (fun hc => ?_) (fun hc => ?_)
    · have h := h.1 hc
      refine lv_iconst (v := 0) hx hb (dk DX11_within 8 rfl) (by decide) ?_
      exact W.zret (v := 0) hx hb hr (by decide) (fun t ht hW => ⟨_, rfl, h, ht⟩) (fun _ h => by cases h) (dk DX11_within 9 rfl)
    · have h := h.2 hc
      refine lv_iconst (v := 1) hx hb (dk DX11_within 6 rfl) (by decide) ?_
      refine lv_goto (tgt := 15) hx hb (dk DX11_within 7 rfl) (by decide) ?_
      exact W.zret (v := 1) hx hb hr (by decide) (fun t ht hW => ⟨_, rfl, h, ht⟩) (fun _ h => by cases h) (dk DX11_within 9 rfl)

def ww_X11_clamp : List Cond := .code yX11_clamp cX11_clamp 4 (some .int) :: (WdX ++ WsX)
theorem q_X11_clamp : yX11_clamp.cls ≠ "java/lang/invoke/MethodHandle" ∧ yX11_clamp.cls ≠ "java/lang/invoke/VarHandle" ∧ (parseMethodDescriptor yX11_clamp.desc).map (fun d => d.parameters.length) = some 3 := by decide +kernel
def VC_X11_clamp (Post : Int32 → Prop) (a0 : Int64) (a1 : Int32) (a2 : Int32) : Prop := Post ((if (if a0 < (a2.toInt64) then a0 else (a2.toInt64)) < (a1.toInt64) then (a1.toInt64) else (if a0 < (a2.toInt64) then a0 else (a2.toInt64))).toInt32)
set_option maxHeartbeats 4000000 in
set_option maxRecDepth 100000 in
theorem m_X11_clamp {l : Launch} {Post : Int32 → Prop} (a0 : Int64) (a1 : Int32) (a2 : Int32) (h : VC_X11_clamp Post a0 a1 a2) : Met l yX11_clamp ww_X11_clamp ({ frames := 1, cells := 0, slots := 0, locals := 40 } : Room) (va_Pc [.long a0, .int a1, .int a2] (fun _ => True)) (vp_Si Post) 0 0 (fun _ => False) := by
  refine oS (cc := cX11_clamp) (maxL := 4) (ret := (some .int)) (Qc := vp_Si Post) (by decide) rfl (Nat.le_of_ble_eq_true rfl) (fun p e s m below meth c ls X hr hlocks hl => ?_)
  have hx := X.1
  have hb := X.2.1
  have hP := trivial
  have hD := trivial
  have hS := trivial
  have hl : lv_has ls 4 [(0, .long a0), (2, .int a1), (3, .int a2)] := hl
  dsimp only [VC_X11_clamp] at h
  refine lv_iload_n hx hb (dk DX11_clamp 0 rfl) rfl (lv_at hl 1 rfl) ?_
  refine lv_i2l hx hb (dk DX11_clamp 1 rfl) rfl ?_
  refine lv_iload_n hx hb (dk DX11_clamp 2 rfl) rfl (lv_at hl 2 rfl) ?_
  refine lv_i2l hx hb (dk DX11_clamp 3 rfl) rfl ?_
  refine lv_lload_n hx hb (dk DX11_clamp 4 rfl) rfl (lv_at hl 0 rfl) ?_
  refine va_mmin_long hx hb (X.2.2.1.trans hl.1.symm) X.2.2.2.1 (X.2.2.2.2 (.methodLink RX11 318 Lib.MathLoose.min_long.x) (inX 84 rfl)) (X.2.2.2.2 (.static Lib.MathLoose.min_long.x) (inX 85 rfl)) (X.2.2.2.2 (.initialized "java/lang/Math") (inX 21 rfl)) (X.2.2.2.2 (.code Lib.MathLoose.min_long.x Lib.MathLoose.min_long.code 4 (some .long)) (inX 86 rfl)) (Nat.le_of_ble_eq_true rfl) (Nat.le_of_ble_eq_true rfl) (Nat.zero_le _) (Nat.zero_le _) (dk DX11_clamp 5 rfl) ?_
  refine va_mmax_long hx hb (X.2.2.1.trans hl.1.symm) X.2.2.2.1 (X.2.2.2.2 (.methodLink RX11 224 Lib.MathLoose.max_long.x) (inX 87 rfl)) (X.2.2.2.2 (.static Lib.MathLoose.max_long.x) (inX 88 rfl)) (X.2.2.2.2 (.initialized "java/lang/Math") (inX 21 rfl)) (X.2.2.2.2 (.code Lib.MathLoose.max_long.x Lib.MathLoose.max_long.code 4 (some .long)) (inX 89 rfl)) (Nat.le_of_ble_eq_true rfl) (Nat.le_of_ble_eq_true rfl) (Nat.zero_le _) (Nat.zero_le _) (dk DX11_clamp 6 rfl) ?_
  refine lv_l2i hx hb (dk DX11_clamp 7 rfl) rfl ?_
  exact W.iret (v := (if (if a0 < (a2.toInt64) then a0 else (a2.toInt64)) < (a1.toInt64) then (a1.toInt64) else (if a0 < (a2.toInt64) then a0 else (a2.toInt64))).toInt32) hx hb hr (fun t ht hW => ⟨_, rfl, h, ht⟩) (fun _ h => by cases h) (dk DX11_clamp 8 rfl)

def ww_X11_commonDivisor : List Cond := .code yX11_commonDivisor cX11_commonDivisor 11 (some .long) :: (WdX ++ WsX)
theorem q_X11_commonDivisor : yX11_commonDivisor.cls ≠ "java/lang/invoke/MethodHandle" ∧ yX11_commonDivisor.cls ≠ "java/lang/invoke/VarHandle" ∧ (parseMethodDescriptor yX11_commonDivisor.desc).map (fun d => d.parameters.length) = some 2 := by decide +kernel
abbrev Hd_X11_commonDivisor : Type := (Int64 × Int64 × Int64 × Int64 × Int32)
def B_X11_commonDivisor (Post : Int64 → Prop) (K : Hd_X11_commonDivisor → Prop) : Hd_X11_commonDivisor → Prop
  | (x0, x2, x4, x6, x8) => ((100 ≤ x8 → Post x4) ∧ (¬ 100 ≤ x8 → (((lg_cmp x6 0) = 0 → Post x4) ∧ (¬ (lg_cmp x6 0) = 0 → ¬ x6 = 0 ∧ ∀ v1 : Int64, v1 = x4 - x4 / x6 * x6 → ∀ v2 : Int32, v2 = x8 + 1 → K (x0, x2, x6, v1, v2)))))
def VC_X11_commonDivisor (Post : Int64 → Prop) (a0 : Int64) (a1 : Int64) : Prop := ∀ K : Hd_X11_commonDivisor → Prop, (∀ h, B_X11_commonDivisor Post K h → K h) → K (a0, a1, a0, a1, 0)
set_option maxHeartbeats 4000000 in
set_option maxRecDepth 100000 in
theorem h_X11_commonDivisor_0 {p : Program} {l : Launch} {e : Env} {s : State} {m : MethodId} {below : List Frame} {meth : Method} {c : Code} {args : Array Value} {Post : Int64 → Prop} {K : Hd_X11_commonDivisor → Prop} (X : CallFix p m c cX11_commonDivisor 11 s args ww_X11_commonDivisor yX11_commonDivisor.cls) (hr : meth.sig.returnType = (some .long)) (hlocks : meth.locks = false) (hK0 : ∀ (x0 : Int64) (x2 : Int64) (x4 : Int64) (x6 : Int64) (x8 : Int32), K (x0, x2, x4, x6, x8) → ∀ ls : Array Slot, lv_has ls 11 [(0, .long x0), (2, .long x2), (4, .long x4), (6, .long x6), (8, .int x8)] → W p l e (headSpec ww_X11_commonDivisor ({ frames := 0, cells := 0, slots := 0, locals := 0 } : Room)).room s m args below meth c s.heap [] 0 0 (MQ below (vp_Sl Post) args s 0 0 (fun _ => False)) (F0 m 9 ls [])) (x0 : Int64) (x2 : Int64) (x4 : Int64) (x6 : Int64) (x8 : Int32) (h : B_X11_commonDivisor Post K (x0, x2, x4, x6, x8)) : ∀ ls : Array Slot, lv_has ls 11 [(0, .long x0), (2, .long x2), (4, .long x4), (6, .long x6), (8, .int x8)] → W p l e (headSpec ww_X11_commonDivisor ({ frames := 0, cells := 0, slots := 0, locals := 0 } : Room)).room s m args below meth c s.heap [] 0 0 (MQ below (vp_Sl Post) args s 0 0 (fun _ => False)) (F0 m 9 ls []) := by
  have hx := X.1
  have hb := X.2.1
  intro ls hl
  have hP := trivial
  have hD := trivial
  have hS := trivial
  dsimp only [B_X11_commonDivisor] at h
  refine lv_iload hx hb (dk DX11_commonDivisor 6 rfl) (lv_at hl 4 rfl) ?_
  refine lv_bipush (v := 100) hx hb (dk DX11_commonDivisor 7 rfl) (by decide) ?_
  refine lv_icmp_ge (tgt := 44) hx hb (dk DX11_commonDivisor 8 rfl) (by decide) (fun hc => ?_) (fun hc => ?_)
  · have h := h.1 hc
    refine lv_lload hx hb (dk DX11_commonDivisor 23 rfl) (lv_at hl 2 rfl) ?_
    exact W.lret (v := x4) hx hb hr (fun t ht hW => ⟨_, rfl, h, ht⟩) (fun _ h => by cases h) (dk DX11_commonDivisor 24 rfl)
  · have h := h.2 hc
    refine lv_lload hx hb (dk DX11_commonDivisor 9 rfl) (lv_at hl 3 rfl) ?_
    refine lv_lconst (v := 0) hx hb (dk DX11_commonDivisor 10 rfl) (by decide) ?_
    refine W.lcmp hx hb (dk DX11_commonDivisor 11 rfl) ?_
    refine lv_if_eq (tgt := 44) hx hb (dk DX11_commonDivisor 12 rfl) (by decide) (fun hc => ?_) (fun hc => ?_)
    · have h := h.1 hc
      refine lv_lload hx hb (dk DX11_commonDivisor 23 rfl) (lv_at hl 2 rfl) ?_
      exact W.lret (v := x4) hx hb hr (fun t ht hW => ⟨_, rfl, h, ht⟩) (fun _ h => by cases h) (dk DX11_commonDivisor 24 rfl)
    · have h := h.2 hc
      refine lv_lload hx hb (dk DX11_commonDivisor 13 rfl) (lv_at hl 2 rfl) ?_
      refine lv_lload hx hb (dk DX11_commonDivisor 14 rfl) (lv_at hl 3 rfl) ?_
      obtain ⟨hz, h⟩ := h
      refine lv_lrem hx hb (dk DX11_commonDivisor 15 rfl) hz ?_
      refine lv_topl (fun v1 ev1 => ?_)
      have h := h v1 ev1
      refine lv_lstore (lv' := [(9, .long v1), (0, .long x0), (2, .long x2), (4, .long x4), (6, .long x6), (8, .int x8)]) hx hb (dk DX11_commonDivisor 16 rfl) hl (by decide) rfl (fun ls hl => ?_)
      refine lv_lload hx hb (dk DX11_commonDivisor 17 rfl) (lv_at hl 4 rfl) ?_
      refine lv_lstore (lv' := [(4, .long x6), (9, .long v1), (0, .long x0), (2, .long x2), (6, .long x6), (8, .int x8)]) hx hb (dk DX11_commonDivisor 18 rfl) hl (by decide) rfl (fun ls hl => ?_)
      refine lv_lload hx hb (dk DX11_commonDivisor 19 rfl) (lv_at hl 1 rfl) ?_
      refine lv_lstore (lv' := [(6, .long v1), (4, .long x6), (9, .long v1), (0, .long x0), (2, .long x2), (8, .int x8)]) hx hb (dk DX11_commonDivisor 20 rfl) hl (by decide) rfl (fun ls hl => ?_)
      obtain ⟨v2, ev2⟩ : ∃ y : Int32, y = x8 + 1 := ⟨_, rfl⟩
      have h := h v2 ev2
      refine lv_iinc (v := v2) (lv' := [(8, .int v2), (6, .long v1), (4, .long x6), (9, .long v1), (0, .long x0), (2, .long x2)]) hx hb (dk DX11_commonDivisor 21 rfl) hl (k := 5) rfl (by rw [ev2]; rfl) (by decide) rfl (fun ls hl => ?_)
      refine lv_goto (tgt := 9) hx hb (dk DX11_commonDivisor 22 rfl) (by decide) ?_
      exact hK0 x0 x2 x6 v1 v2 h  ls (lv_sub hl [4, 5, 2, 1, 0] rfl)
set_option maxHeartbeats 4000000 in
set_option maxRecDepth 100000 in
theorem m_X11_commonDivisor {l : Launch} {Post : Int64 → Prop} (a0 : Int64) (a1 : Int64) (h : VC_X11_commonDivisor Post a0 a1) : Met l yX11_commonDivisor ww_X11_commonDivisor ({ frames := 0, cells := 0, slots := 0, locals := 0 } : Room) (va_Pc [.long a0, .long a1] (fun _ => True)) (vp_Sl Post) 0 0 (fun _ => False) := by
  refine oS (cc := cX11_commonDivisor) (maxL := 11) (ret := (some .long)) (Qc := vp_Sl Post) (by decide) rfl (Nat.le_of_ble_eq_true rfl) (fun p e s m below meth c ls X hr hlocks hl => ?_)
  have hx := X.1
  have hb := X.2.1
  have hP := trivial
  have hD := trivial
  have hS := trivial
  have hl : lv_has ls 11 [(0, .long a0), (2, .long a1)] := hl
  generalize hargs : ([.long a0, .long a1] : List Value).toArray = args at X ⊢
  have h := h (fun hd => match hd with | (x0, x2, x4, x6, x8) => ∀ ls : Array Slot, lv_has ls 11 [(0, .long x0), (2, .long x2), (4, .long x4), (6, .long x6), (8, .int x8)] → W p l e (headSpec ww_X11_commonDivisor ({ frames := 0, cells := 0, slots := 0, locals := 0 } : Room)).room s m args below meth c s.heap [] 0 0 (MQ below (vp_Sl Post) args s 0 0 (fun _ => False)) (F0 m 9 ls [])) ?_
  · skip
    refine lv_lload_n hx hb (dk DX11_commonDivisor 0 rfl) rfl (lv_at hl 0 rfl) ?_
    refine lv_lstore (lv' := [(4, .long a0), (0, .long a0), (2, .long a1)]) hx hb (dk DX11_commonDivisor 1 rfl) hl (by decide) rfl (fun ls hl => ?_)
    refine lv_lload_n hx hb (dk DX11_commonDivisor 2 rfl) rfl (lv_at hl 2 rfl) ?_
    refine lv_lstore (lv' := [(6, .long a1), (4, .long a0), (0, .long a0), (2, .long a1)]) hx hb (dk DX11_commonDivisor 3 rfl) hl (by decide) rfl (fun ls hl => ?_)
    refine lv_iconst (v := 0) hx hb (dk DX11_commonDivisor 4 rfl) (by decide) ?_
    refine lv_istore (lv' := [(8, .int 0), (6, .long a1), (4, .long a0), (0, .long a0), (2, .long a1)]) hx hb (dk DX11_commonDivisor 5 rfl) hl (by decide) rfl (fun ls hl => ?_)
    exact h  ls (lv_sub hl [3, 4, 2, 1, 0] rfl)
  · rintro ⟨x0, x2, x4, x6, x8⟩ hB
    exact h_X11_commonDivisor_0 X hr hlocks (hK0 := fun _ _ _ _ _ h => h) x0 x2 x4 x6 x8 hB

def ww_X1_has_2 : List Cond := .code yX1_has cX1_has 2 (some .boolean) :: (WdX ++ WsX)
theorem q_X1_has_2 : yX1_has.cls = RX1 ∧ yX1_has.cls ≠ "java/lang/invoke/MethodHandle" ∧ yX1_has.cls ≠ "java/lang/invoke/VarHandle" ∧ (parseMethodDescriptor yX1_has.desc).map (fun d => d.parameters.length) = some 1 := by decide +kernel
def VC_X1_has_2 (Post : Int32 → XS → Prop) (a0 : Int32) (S : XS) : Prop := ((a0 < 0 → Post 0 S) ∧ (¬ a0 < 0 → (((S.1 64) ≤ a0 → Post 0 S) ∧ (¬ (S.1 64) ≤ a0 → Post 1 S))))
set_option maxHeartbeats 4000000 in
set_option maxRecDepth 100000 in
theorem m_X1_has_2 {l : Launch} {dC : Nat → ClassId} {dI : Nat → Nat → Nat} {q : Nat → Nat} {cI cT : ClassId} {en : Nat → Nat} {sz : Nat} {Post : Int32 → XS → Prop} (a0 : Int32) (S : XS) (h : VC_X1_has_2 Post a0 S) : Met l yX1_has ww_X1_has_2 ({ frames := 0, cells := 0, slots := 0, locals := 0 } : Room) (va_Pc [.ref (q 2), .int a0] (preX dC dI q cI cT en S sz)) (va_Qi Post (atX dC dI q cI cT (va_A (wX q cI cT S) sz)) (va_A (wX q cI cT S) sz)) 0 0 (va_A (wX q cI cT S) sz) := by
  refine oX (cc := cX1_has) (maxL := 2) (ret := (some .boolean)) (Qc := fun A => va_Qi Post (atX dC dI q cI cT A) A) (own := RX1) (by decide) rfl (fun w h => List.mem_cons_of_mem _ (List.mem_append_right _ h)) rfl (Nat.le_of_ble_eq_true rfl) (fun p e s m below meth c A ls X hr hlocks hP hD hS hl => ?_)
  have hx := X.1
  have hb := X.2.1
  have hl : lv_has ls 2 [(0, .ref (q 2)), (1, .int a0)] := hl
  have lk24 := X.2.2.2.2.1 (.fieldLink RX1 24 "BreathOnLoan$Crew" "count" "I") (inX 36 rfl)
  dsimp only [VC_X1_has_2] at h
  refine lv_iload_n hx hb (dk DX1_has 0 rfl) rfl (lv_at hl 1 rfl) ?_
  refine lv_if_lt (tgt := 16) hx hb (dk DX1_has 1 rfl) (by decide) (fun hc => ?_) (fun hc => ?_)
  · have h := h.1 hc
    refine lv_iconst (v := 0) hx hb (dk DX1_has 8 rfl) (by decide) ?_
    exact W.zret (v := 0) hx hb hr (by decide) (fun t ht hW => ⟨⟨_, _, rfl, h, by rw [ht]; exact hP, va_K.moved hW.alike X.2.2.2.2.2.2.1, hD⟩, hS.F ht⟩) hS.2.2 (dk DX1_has 9 rfl)
  · have h := h.2 hc
    refine lv_iload_n hx hb (dk DX1_has 2 rfl) rfl (lv_at hl 1 rfl) ?_
    refine lv_aload_n hx hb (dk DX1_has 3 rfl) rfl (lv_at hl 0 rfl) ?_
    refine gX_2 X hP 0 (by decide) rfl lk24 (dk DX1_has 4 rfl) ?_
    refine lv_icmp_ge (tgt := 16) hx hb (dk DX1_has 5 rfl) (by decide) (fun hc => ?_) (fun hc => ?_)
    · have h := h.1 hc
      refine lv_iconst (v := 0) hx hb (dk DX1_has 8 rfl) (by decide) ?_
      exact W.zret (v := 0) hx hb hr (by decide) (fun t ht hW => ⟨⟨_, _, rfl, h, by rw [ht]; exact hP, va_K.moved hW.alike X.2.2.2.2.2.2.1, hD⟩, hS.F ht⟩) hS.2.2 (dk DX1_has 9 rfl)
    · have h := h.2 hc
      refine lv_iconst (v := 1) hx hb (dk DX1_has 6 rfl) (by decide) ?_
      refine lv_goto (tgt := 17) hx hb (dk DX1_has 7 rfl) (by decide) ?_
      exact W.zret (v := 1) hx hb hr (by decide) (fun t ht hW => ⟨⟨_, _, rfl, h, by rw [ht]; exact hP, va_K.moved hW.alike X.2.2.2.2.2.2.1, hD⟩, hS.F ht⟩) hS.2.2 (dk DX1_has 9 rfl)

def ww_X1_join_2 : List Cond := .code yX1_join cX1_join 4 (some .int) :: (WdX ++ WsX)
theorem q_X1_join_2 : yX1_join.cls = RX1 ∧ yX1_join.cls ≠ "java/lang/invoke/MethodHandle" ∧ yX1_join.cls ≠ "java/lang/invoke/VarHandle" ∧ (parseMethodDescriptor yX1_join.desc).map (fun d => d.parameters.length) = some 3 := by decide +kernel
def VC_X1_join_2 (Post : Int32 → XS → Prop) (a0 : Int32) (a1 : Int32) (a2 : Int32) (S : XS) : Prop := (((S.1 64) < 6 → vp_in (S.1 64) 6 ∧ ∀ S1 : XS, S1 = xF S 3 (upd (S.2.1 3) (S.1 64).toNatClampNeg a0) → vp_in (S1.1 64) 6 ∧ ∀ S2 : XS, S2 = xF S1 4 (upd (S1.2.1 4) (S1.1 64).toNatClampNeg a1) → vp_in (S2.1 64) 6 ∧ ∀ S3 : XS, S3 = xF S2 5 (upd (S2.2.1 5) (S2.1 64).toNatClampNeg a2) → vp_in (S3.1 64) 6 ∧ ∀ S4 : XS, S4 = xF S3 6 (upd (S3.2.1 6) (S3.1 64).toNatClampNeg 0) → ∀ v5 : Int32, v5 = (S4.1 64) + 1 → ∀ S6 : XS, S6 = xI S4 64 v5 → Post ((S6.1 64) - 1) S6) ∧ (¬ (S.1 64) < 6 → Post (-1) S))
set_option maxHeartbeats 4000000 in
set_option maxRecDepth 100000 in
theorem m_X1_join_2 {l : Launch} {dC : Nat → ClassId} {dI : Nat → Nat → Nat} {q : Nat → Nat} {cI cT : ClassId} {en : Nat → Nat} {sz : Nat} {Post : Int32 → XS → Prop} (a0 : Int32) (a1 : Int32) (a2 : Int32) (S : XS) (h : VC_X1_join_2 Post a0 a1 a2 S) : Met l yX1_join ww_X1_join_2 ({ frames := 0, cells := 0, slots := 0, locals := 0 } : Room) (va_Pc [.ref (q 2), .int a0, .int a1, .int a2] (preX dC dI q cI cT en S sz)) (va_Qi Post (atX dC dI q cI cT (va_A (wX q cI cT S) sz)) (va_A (wX q cI cT S) sz)) 0 0 (va_A (wX q cI cT S) sz) := by
  refine oX (cc := cX1_join) (maxL := 4) (ret := (some .int)) (Qc := fun A => va_Qi Post (atX dC dI q cI cT A) A) (own := RX1) (by decide) rfl (fun w h => List.mem_cons_of_mem _ (List.mem_append_right _ h)) rfl (Nat.le_of_ble_eq_true rfl) (fun p e s m below meth c A ls X hr hlocks hP hD hS hl => ?_)
  have hx := X.1
  have hb := X.2.1
  have hl : lv_has ls 4 [(0, .ref (q 2)), (1, .int a0), (2, .int a1), (3, .int a2)] := hl
  have lk24 := X.2.2.2.2.1 (.fieldLink RX1 24 "BreathOnLoan$Crew" "count" "I") (inX 36 rfl)
  have lk9 := X.2.2.2.2.1 (.fieldLink RX1 9 "BreathOnLoan$Crew" "lungs" "[I") (inX 31 rfl)
  have lk15 := X.2.2.2.2.1 (.fieldLink RX1 15 "BreathOnLoan$Crew" "voice" "[I") (inX 32 rfl)
  have lk18 := X.2.2.2.2.1 (.fieldLink RX1 18 "BreathOnLoan$Crew" "beads" "[I") (inX 33 rfl)
  have lk21 := X.2.2.2.2.1 (.fieldLink RX1 21 "BreathOnLoan$Crew" "foes" "[I") (inX 34 rfl)
  dsimp only [VC_X1_join_2] at h
  refine lv_aload_n hx hb (dk DX1_join 0 rfl) rfl (lv_at hl 0 rfl) ?_
  refine gX_2 X hP 0 (by decide) rfl lk24 (dk DX1_join 1 rfl) ?_
  refine lv_bipush (v := 6) hx hb (dk DX1_join 2 rfl) (by decide) ?_
  refine lv_icmp_lt (tgt := 11) hx hb (dk DX1_join 3 rfl) (by decide) (fun hc => ?_) (fun hc => ?_)
  · have h := h.1 hc
    refine lv_aload_n hx hb (dk DX1_join 6 rfl) rfl (lv_at hl 0 rfl) ?_
    refine gX_2 X hP 1 (by decide) rfl lk9 (dk DX1_join 7 rfl) ?_
    refine lv_aload_n hx hb (dk DX1_join 8 rfl) rfl (lv_at hl 0 rfl) ?_
    refine gX_2 X hP 0 (by decide) rfl lk24 (dk DX1_join 9 rfl) ?_
    refine lv_iload_n hx hb (dk DX1_join 10 rfl) rfl (lv_at hl 1 rfl) ?_
    obtain ⟨hin, h⟩ := h
    refine stX_3 X hP hD hS hin (dk DX1_join 11 rfl) (fun S1 eS1 H locs hP hD hS => ?_)
    have h := h S1 eS1
    refine lv_aload_n hx hb (dk DX1_join 12 rfl) rfl (lv_at hl 0 rfl) ?_
    refine gX_2 X hP 2 (by decide) rfl lk15 (dk DX1_join 13 rfl) ?_
    refine lv_aload_n hx hb (dk DX1_join 14 rfl) rfl (lv_at hl 0 rfl) ?_
    refine gX_2 X hP 0 (by decide) rfl lk24 (dk DX1_join 15 rfl) ?_
    refine lv_iload_n hx hb (dk DX1_join 16 rfl) rfl (lv_at hl 2 rfl) ?_
    obtain ⟨hin, h⟩ := h
    refine stX_4 X hP hD hS hin (dk DX1_join 17 rfl) (fun S2 eS2 H locs hP hD hS => ?_)
    have h := h S2 eS2
    refine lv_aload_n hx hb (dk DX1_join 18 rfl) rfl (lv_at hl 0 rfl) ?_
    refine gX_2 X hP 3 (by decide) rfl lk18 (dk DX1_join 19 rfl) ?_
    refine lv_aload_n hx hb (dk DX1_join 20 rfl) rfl (lv_at hl 0 rfl) ?_
    refine gX_2 X hP 0 (by decide) rfl lk24 (dk DX1_join 21 rfl) ?_
    refine lv_iload_n hx hb (dk DX1_join 22 rfl) rfl (lv_at hl 3 rfl) ?_
    obtain ⟨hin, h⟩ := h
    refine stX_5 X hP hD hS hin (dk DX1_join 23 rfl) (fun S3 eS3 H locs hP hD hS => ?_)
    have h := h S3 eS3
    refine lv_aload_n hx hb (dk DX1_join 24 rfl) rfl (lv_at hl 0 rfl) ?_
    refine gX_2 X hP 4 (by decide) rfl lk21 (dk DX1_join 25 rfl) ?_
    refine lv_aload_n hx hb (dk DX1_join 26 rfl) rfl (lv_at hl 0 rfl) ?_
    refine gX_2 X hP 0 (by decide) rfl lk24 (dk DX1_join 27 rfl) ?_
    refine lv_iconst (v := 0) hx hb (dk DX1_join 28 rfl) (by decide) ?_
    obtain ⟨hin, h⟩ := h
    refine stX_6 X hP hD hS hin (dk DX1_join 29 rfl) (fun S4 eS4 H locs hP hD hS => ?_)
    have h := h S4 eS4
    refine lv_aload_n hx hb (dk DX1_join 30 rfl) rfl (lv_at hl 0 rfl) ?_
    refine lv_dup hx hb (dk DX1_join 31 rfl) rfl ?_
    refine gX_2 X hP 0 (by decide) rfl lk24 (dk DX1_join 32 rfl) ?_
    refine lv_iconst (v := 1) hx hb (dk DX1_join 33 rfl) (by decide) ?_
    refine lv_iadd hx hb (dk DX1_join 34 rfl) ?_
    refine lv_topi (fun v5 ev5 => ?_)
    have h := h v5 ev5
    refine pX_2_0 X hP hD hS lk24 (dk DX1_join 35 rfl) (fun S6 eS6 H locs hP hD hS => ?_)
    have h := h S6 eS6
    refine lv_aload_n hx hb (dk DX1_join 36 rfl) rfl (lv_at hl 0 rfl) ?_
    refine gX_2 X hP 0 (by decide) rfl lk24 (dk DX1_join 37 rfl) ?_
    refine lv_iconst (v := 1) hx hb (dk DX1_join 38 rfl) (by decide) ?_
    refine lv_isub hx hb (dk DX1_join 39 rfl) ?_
    exact W.iret (v := (S6.1 64) - 1) hx hb hr (fun t ht hW => ⟨⟨_, _, rfl, h, by rw [ht]; exact hP, va_K.moved hW.alike X.2.2.2.2.2.2.1, hD⟩, hS.F ht⟩) hS.2.2 (dk DX1_join 40 rfl)
  · have h := h.2 hc
    refine lv_iconst (v := (-1)) hx hb (dk DX1_join 4 rfl) (by decide) ?_
    exact W.iret (v := (-1)) hx hb hr (fun t ht hW => ⟨⟨_, _, rfl, h, by rw [ht]; exact hP, va_K.moved hW.alike X.2.2.2.2.2.2.1, hD⟩, hS.F ht⟩) hS.2.2 (dk DX1_join 5 rfl)

def ww_X1_setFoes_2 : List Cond := .code yX1_setFoes cX1_setFoes 4 none :: (WdX ++ WsX)
theorem q_X1_setFoes_2 : yX1_setFoes.cls = RX1 ∧ yX1_setFoes.cls ≠ "java/lang/invoke/MethodHandle" ∧ yX1_setFoes.cls ≠ "java/lang/invoke/VarHandle" ∧ (parseMethodDescriptor yX1_setFoes.desc).map (fun d => d.parameters.length) = some 3 := by decide +kernel
abbrev Hd_X1_setFoes_2 : Type := (Int32 × Int32 × Int32 × Int32 × Int32)
def B_X1_setFoes_2 (Post : XS → Prop) (K : Hd_X1_setFoes_2 → XS → Prop) : Hd_X1_setFoes_2 → XS → Prop
  | (x1, x2, x3, t1, t2), S => vp_in t1 6 ∧ ∀ S5 : XS, S5 = xF S 6 (upd (S.2.1 6) t1.toNatClampNeg t2) → ((x3 = 0 → vp_in x2 6 ∧ ∀ v6 : Int32, v6 = ((S5.2.1 6) x2.toNatClampNeg) &&& (((1 : Int32) <<< (x1 &&& 31)) ^^^ (-1)) → vp_in x2 6 ∧ ∀ S7 : XS, S7 = xF S5 6 (upd (S5.2.1 6) x2.toNatClampNeg v6) → Post S7) ∧ (¬ x3 = 0 → vp_in x2 6 ∧ ∀ v8 : Int32, v8 = ((S5.2.1 6) x2.toNatClampNeg) ||| ((1 : Int32) <<< (x1 &&& 31)) → vp_in x2 6 ∧ ∀ S9 : XS, S9 = xF S5 6 (upd (S5.2.1 6) x2.toNatClampNeg v8) → Post S9))
def VC_X1_setFoes_2 (Post : XS → Prop) (a0 : Int32) (a1 : Int32) (a2 : Int32) (S : XS) : Prop := ∀ K : Hd_X1_setFoes_2 → XS → Prop, (∀ h S, B_X1_setFoes_2 Post K h S → K h S) → VC_X1_has_2 (fun r2 S1 => ((r2 = 0 → Post S1) ∧ (¬ r2 = 0 → VC_X1_has_2 (fun r4 S3 => ((r4 = 0 → Post S3) ∧ (¬ r4 = 0 → ((a2 = 0 → vp_in a0 6 ∧ K (a0, a1, a2, a0, ((S3.2.1 6) a0.toNatClampNeg) &&& (((1 : Int32) <<< (a1 &&& 31)) ^^^ (-1))) S3) ∧ (¬ a2 = 0 → vp_in a0 6 ∧ K (a0, a1, a2, a0, ((S3.2.1 6) a0.toNatClampNeg) ||| ((1 : Int32) <<< (a1 &&& 31))) S3))))) a1 S1))) a0 S
set_option maxHeartbeats 4000000 in
set_option maxRecDepth 100000 in
theorem h_X1_setFoes_2_0 {p : Program} {l : Launch} {e : Env} {s : State} {m : MethodId} {below : List Frame} {meth : Method} {c : Code} {dC : Nat → ClassId} {dI : Nat → Nat → Nat} {q : Nat → Nat} {cI cT : ClassId} {en : Nat → Nat} {A : Nat → Prop} {args : Array Value} {Post : XS → Prop} {K : Hd_X1_setFoes_2 → XS → Prop} (X : XX p s m args c cX1_setFoes 4 ww_X1_setFoes_2 RX1 dC dI cI cT en A) (hr : meth.sig.returnType = none) (hlocks : meth.locks = false) (hK0 : ∀ (x1 : Int32) (x2 : Int32) (x3 : Int32) (t1 : Int32) (t2 : Int32) (S : XS), K (x1, x2, x3, t1, t2) S → ∀ (H : Heap) (locs : List Loc), va_P (dC, dI) vwCl (wX q cI cT S) H → va_D A (wX q cI cT S) → va_S A s.heap H locs → ∀ ls : Array Slot, lv_has ls 4 [(0, .ref (q 2)), (1, .int x1), (2, .int x2), (3, .int x3)] → W p l e (headSpec ww_X1_setFoes_2 ({ frames := 1, cells := 0, slots := 0, locals := 21 } : Room)).room s m args below meth c H locs 0 0 (MQ below (va_Qv Post (atX dC dI q cI cT A) A) args s 0 0 A) (F0 m 50 ls [.int t2, .int t1, .ref (q 6)])) (x1 : Int32) (x2 : Int32) (x3 : Int32) (t1 : Int32) (t2 : Int32) (S : XS) (h : B_X1_setFoes_2 Post K (x1, x2, x3, t1, t2) S) : ∀ (H : Heap) (locs : List Loc), va_P (dC, dI) vwCl (wX q cI cT S) H → va_D A (wX q cI cT S) → va_S A s.heap H locs → ∀ ls : Array Slot, lv_has ls 4 [(0, .ref (q 2)), (1, .int x1), (2, .int x2), (3, .int x3)] → W p l e (headSpec ww_X1_setFoes_2 ({ frames := 1, cells := 0, slots := 0, locals := 21 } : Room)).room s m args below meth c H locs 0 0 (MQ below (va_Qv Post (atX dC dI q cI cT A) A) args s 0 0 A) (F0 m 50 ls [.int t2, .int t1, .ref (q 6)]) := by
  have hx := X.1
  have hb := X.2.1
  intro H locs hP hD hS ls hl
  have lk21 := X.2.2.2.2.1 (.fieldLink RX1 21 "BreathOnLoan$Crew" "foes" "[I") (inX 34 rfl)
  dsimp only [B_X1_setFoes_2] at h
  obtain ⟨hin, h⟩ := h
  refine stX_6 X hP hD hS hin (dk DX1_setFoes 32 rfl) (fun S5 eS5 H locs hP hD hS => ?_)
  have h := h S5 eS5
  refine lv_aload_n hx hb (dk DX1_setFoes 33 rfl) rfl (lv_at hl 0 rfl) ?_
  refine gX_2 X hP 4 (by decide) rfl lk21 (dk DX1_setFoes 34 rfl) ?_
  refine lv_iload_n hx hb (dk DX1_setFoes 35 rfl) rfl (lv_at hl 2 rfl) ?_
  refine lv_iload_n hx hb (dk DX1_setFoes 36 rfl) rfl (lv_at hl 3 rfl) ?_
  refine lv_if_eq (tgt := 73) hx hb (dk DX1_setFoes 37 rfl) (by decide) (fun hc => ?_) (fun hc => ?_)
  · have h := h.1 hc
    refine lv_aload_n hx hb (dk DX1_setFoes 47 rfl) rfl (lv_at hl 0 rfl) ?_
    refine gX_2 X hP 4 (by decide) rfl lk21 (dk DX1_setFoes 48 rfl) ?_
    refine lv_iload_n hx hb (dk DX1_setFoes 49 rfl) rfl (lv_at hl 2 rfl) ?_
    obtain ⟨hin, h⟩ := h
    refine ldX_6 X hP hin (dk DX1_setFoes 50 rfl) ?_
    refine lv_iconst (v := 1) hx hb (dk DX1_setFoes 51 rfl) (by decide) ?_
    refine lv_iload_n hx hb (dk DX1_setFoes 52 rfl) rfl (lv_at hl 1 rfl) ?_
    refine lv_ishl hx hb (dk DX1_setFoes 53 rfl) ?_
    refine lv_iconst (v := (-1)) hx hb (dk DX1_setFoes 54 rfl) (by decide) ?_
    refine lv_ixor hx hb (dk DX1_setFoes 55 rfl) ?_
    refine lv_iand hx hb (dk DX1_setFoes 56 rfl) ?_
    refine lv_topi (fun v6 ev6 => ?_)
    have h := h v6 ev6
    obtain ⟨hin, h⟩ := h
    refine stX_6 X hP hD hS hin (dk DX1_setFoes 57 rfl) (fun S7 eS7 H locs hP hD hS => ?_)
    have h := h S7 eS7
    exact W.vret hx hb hr (fun t ht hW => ⟨⟨_, rfl, h, by rw [ht]; exact hP, va_K.moved hW.alike X.2.2.2.2.2.2.1, hD⟩, hS.F ht⟩) hS.2.2 (dk DX1_setFoes 58 rfl)
  · have h := h.2 hc
    refine lv_aload_n hx hb (dk DX1_setFoes 38 rfl) rfl (lv_at hl 0 rfl) ?_
    refine gX_2 X hP 4 (by decide) rfl lk21 (dk DX1_setFoes 39 rfl) ?_
    refine lv_iload_n hx hb (dk DX1_setFoes 40 rfl) rfl (lv_at hl 2 rfl) ?_
    obtain ⟨hin, h⟩ := h
    refine ldX_6 X hP hin (dk DX1_setFoes 41 rfl) ?_
    refine lv_iconst (v := 1) hx hb (dk DX1_setFoes 42 rfl) (by decide) ?_
    refine lv_iload_n hx hb (dk DX1_setFoes 43 rfl) rfl (lv_at hl 1 rfl) ?_
    refine lv_ishl hx hb (dk DX1_setFoes 44 rfl) ?_
    refine lv_ior hx hb (dk DX1_setFoes 45 rfl) ?_
    refine lv_goto (tgt := 85) hx hb (dk DX1_setFoes 46 rfl) (by decide) ?_
    refine lv_topi (fun v8 ev8 => ?_)
    have h := h v8 ev8
    obtain ⟨hin, h⟩ := h
    refine stX_6 X hP hD hS hin (dk DX1_setFoes 57 rfl) (fun S9 eS9 H locs hP hD hS => ?_)
    have h := h S9 eS9
    exact W.vret hx hb hr (fun t ht hW => ⟨⟨_, rfl, h, by rw [ht]; exact hP, va_K.moved hW.alike X.2.2.2.2.2.2.1, hD⟩, hS.F ht⟩) hS.2.2 (dk DX1_setFoes 58 rfl)
set_option maxHeartbeats 4000000 in
set_option maxRecDepth 100000 in
theorem m_X1_setFoes_2 {l : Launch} {dC : Nat → ClassId} {dI : Nat → Nat → Nat} {q : Nat → Nat} {cI cT : ClassId} {en : Nat → Nat} {sz : Nat} {Post : XS → Prop} (a0 : Int32) (a1 : Int32) (a2 : Int32) (S : XS) (h : VC_X1_setFoes_2 Post a0 a1 a2 S) : Met l yX1_setFoes ww_X1_setFoes_2 ({ frames := 1, cells := 0, slots := 0, locals := 21 } : Room) (va_Pc [.ref (q 2), .int a0, .int a1, .int a2] (preX dC dI q cI cT en S sz)) (va_Qv Post (atX dC dI q cI cT (va_A (wX q cI cT S) sz)) (va_A (wX q cI cT S) sz)) 0 0 (va_A (wX q cI cT S) sz) := by
  refine oX (cc := cX1_setFoes) (maxL := 4) (ret := none) (Qc := fun A => va_Qv Post (atX dC dI q cI cT A) A) (own := RX1) (by decide) rfl (fun w h => List.mem_cons_of_mem _ (List.mem_append_right _ h)) rfl (Nat.le_of_ble_eq_true rfl) (fun p e s m below meth c A ls X hr hlocks hP hD hS hl => ?_)
  have hx := X.1
  have hb := X.2.1
  have hl : lv_has ls 4 [(0, .ref (q 2)), (1, .int a0), (2, .int a1), (3, .int a2)] := hl
  have lk21 := X.2.2.2.2.1 (.fieldLink RX1 21 "BreathOnLoan$Crew" "foes" "[I") (inX 34 rfl)
  generalize hargs : ([.ref (q 2), .int a0, .int a1, .int a2] : List Value).toArray = args at X ⊢
  have h := h (fun hd S => match hd with | (x1, x2, x3, t1, t2) => ∀ (H : Heap) (locs : List Loc), va_P (dC, dI) vwCl (wX q cI cT S) H → va_D A (wX q cI cT S) → va_S A s.heap H locs → ∀ ls : Array Slot, lv_has ls 4 [(0, .ref (q 2)), (1, .int x1), (2, .int x2), (3, .int x3)] → W p l e (headSpec ww_X1_setFoes_2 ({ frames := 1, cells := 0, slots := 0, locals := 21 } : Room)).room s m args below meth c H locs 0 0 (MQ below (va_Qv Post (atX dC dI q cI cT A) A) args s 0 0 A) (F0 m 50 ls [.int t2, .int t1, .ref (q 6)])) ?_
  · skip
    refine lv_aload_n hx hb (dk DX1_setFoes 0 rfl) rfl (lv_at hl 0 rfl) ?_
    refine lv_iload_n hx hb (dk DX1_setFoes 1 rfl) rfl (lv_at hl 1 rfl) ?_
    refine cXi (As := [.int a0]) (rest := []) X (m_X1_has_2 (l := l) (dC := dC) (dI := dI) (q := q) (cI := cI) (cT := cT) (en := en) (sz := _) a0 S h) (cwV 1 X.2.2.2.2.1 (gxV 39 40 41 42 35 rfl rfl rfl rfl rfl) rfl rfl rfl q_X1_has_2 ⟨Nat.le_of_ble_eq_true rfl, Nat.le_of_ble_eq_true rfl⟩) (rX_2 X hP) hP hD hS rfl hl.1 rfl (Nat.le_of_ble_eq_true rfl) (dk DX1_setFoes 2 rfl) (fun r2 S1 H locs h hP hD hS => ?_)
    refine lv_if_eq (tgt := 86) hx hb (dk DX1_setFoes 3 rfl) (by decide) (fun hc => ?_) (fun hc => ?_)
    · have h := h.1 hc
      exact W.vret hx hb hr (fun t ht hW => ⟨⟨_, rfl, h, by rw [ht]; exact hP, va_K.moved hW.alike X.2.2.2.2.2.2.1, hD⟩, hS.F ht⟩) hS.2.2 (dk DX1_setFoes 58 rfl)
    · have h := h.2 hc
      refine lv_aload_n hx hb (dk DX1_setFoes 4 rfl) rfl (lv_at hl 0 rfl) ?_
      refine lv_iload_n hx hb (dk DX1_setFoes 5 rfl) rfl (lv_at hl 2 rfl) ?_
      refine cXi (As := [.int a1]) (rest := []) X (m_X1_has_2 (l := l) (dC := dC) (dI := dI) (q := q) (cI := cI) (cT := cT) (en := en) (sz := _) a1 S1 h) (cwV 1 X.2.2.2.2.1 (gxV 39 40 41 42 35 rfl rfl rfl rfl rfl) rfl rfl rfl q_X1_has_2 ⟨Nat.le_of_ble_eq_true rfl, Nat.le_of_ble_eq_true rfl⟩) (rX_2 X hP) hP hD hS rfl hl.1 rfl (Nat.le_of_ble_eq_true rfl) (dk DX1_setFoes 6 rfl) (fun r4 S3 H locs h hP hD hS => ?_)
      refine lv_if_eq (tgt := 86) hx hb (dk DX1_setFoes 7 rfl) (by decide) (fun hc => ?_) (fun hc => ?_)
      · have h := h.1 hc
        exact W.vret hx hb hr (fun t ht hW => ⟨⟨_, rfl, h, by rw [ht]; exact hP, va_K.moved hW.alike X.2.2.2.2.2.2.1, hD⟩, hS.F ht⟩) hS.2.2 (dk DX1_setFoes 58 rfl)
      · have h := h.2 hc
        refine lv_aload_n hx hb (dk DX1_setFoes 8 rfl) rfl (lv_at hl 0 rfl) ?_
        refine gX_2 X hP 4 (by decide) rfl lk21 (dk DX1_setFoes 9 rfl) ?_
        refine lv_iload_n hx hb (dk DX1_setFoes 10 rfl) rfl (lv_at hl 1 rfl) ?_
        refine lv_iload_n hx hb (dk DX1_setFoes 11 rfl) rfl (lv_at hl 3 rfl) ?_
        refine lv_if_eq (tgt := 38) hx hb (dk DX1_setFoes 12 rfl) (by decide) (fun hc => ?_) (fun hc => ?_)
        · have h := h.1 hc
          refine lv_aload_n hx hb (dk DX1_setFoes 22 rfl) rfl (lv_at hl 0 rfl) ?_
          refine gX_2 X hP 4 (by decide) rfl lk21 (dk DX1_setFoes 23 rfl) ?_
          refine lv_iload_n hx hb (dk DX1_setFoes 24 rfl) rfl (lv_at hl 1 rfl) ?_
          obtain ⟨hin, h⟩ := h
          refine ldX_6 X hP hin (dk DX1_setFoes 25 rfl) ?_
          refine lv_iconst (v := 1) hx hb (dk DX1_setFoes 26 rfl) (by decide) ?_
          refine lv_iload_n hx hb (dk DX1_setFoes 27 rfl) rfl (lv_at hl 2 rfl) ?_
          refine lv_ishl hx hb (dk DX1_setFoes 28 rfl) ?_
          refine lv_iconst (v := (-1)) hx hb (dk DX1_setFoes 29 rfl) (by decide) ?_
          refine lv_ixor hx hb (dk DX1_setFoes 30 rfl) ?_
          refine lv_iand hx hb (dk DX1_setFoes 31 rfl) ?_
          exact h _ _ hP hD hS ls (lv_sub hl [0, 1, 2, 3] rfl)
        · have h := h.2 hc
          refine lv_aload_n hx hb (dk DX1_setFoes 13 rfl) rfl (lv_at hl 0 rfl) ?_
          refine gX_2 X hP 4 (by decide) rfl lk21 (dk DX1_setFoes 14 rfl) ?_
          refine lv_iload_n hx hb (dk DX1_setFoes 15 rfl) rfl (lv_at hl 1 rfl) ?_
          obtain ⟨hin, h⟩ := h
          refine ldX_6 X hP hin (dk DX1_setFoes 16 rfl) ?_
          refine lv_iconst (v := 1) hx hb (dk DX1_setFoes 17 rfl) (by decide) ?_
          refine lv_iload_n hx hb (dk DX1_setFoes 18 rfl) rfl (lv_at hl 2 rfl) ?_
          refine lv_ishl hx hb (dk DX1_setFoes 19 rfl) ?_
          refine lv_ior hx hb (dk DX1_setFoes 20 rfl) ?_
          refine lv_goto (tgt := 50) hx hb (dk DX1_setFoes 21 rfl) (by decide) ?_
          exact h _ _ hP hD hS ls (lv_sub hl [0, 1, 2, 3] rfl)
  · rintro ⟨x1, x2, x3, t1, t2⟩ S hB
    exact h_X1_setFoes_2_0 X hr hlocks (hK0 := fun _ _ _ _ _ _ h => h) x1 x2 x3 t1 t2 S hB

def ww_X1_voicesOf_2 : List Cond := .code yX1_voicesOf cX1_voicesOf 4 (some .int) :: (WdX ++ WsX)
theorem q_X1_voicesOf_2 : yX1_voicesOf.cls = RX1 ∧ yX1_voicesOf.cls ≠ "java/lang/invoke/MethodHandle" ∧ yX1_voicesOf.cls ≠ "java/lang/invoke/VarHandle" ∧ (parseMethodDescriptor yX1_voicesOf.desc).map (fun d => d.parameters.length) = some 1 := by decide +kernel
abbrev Hd_X1_voicesOf_2 : Type := (Int32 × Int32 × Int32)
def B_X1_voicesOf_2 (Post : Int32 → XS → Prop) (K : Hd_X1_voicesOf_2 → XS → Prop) : Hd_X1_voicesOf_2 → XS → Prop
  | (x1, x2, x3), S => (((S.1 64) ≤ x3 → Post x2 S) ∧ (¬ (S.1 64) ≤ x3 → ((((x1 >>> (x3 &&& 31)) &&& 1) = 0 → ∀ v1 : Int32, v1 = x3 + 1 → K (x1, x2, v1) S) ∧ (¬ ((x1 >>> (x3 &&& 31)) &&& 1) = 0 → vp_in x3 6 ∧ ∀ v2 : Int32, v2 = x2 ||| ((1 : Int32) <<< (((S.2.1 4) x3.toNatClampNeg) &&& 31)) → ∀ v3 : Int32, v3 = x3 + 1 → K (x1, v2, v3) S))))
def VC_X1_voicesOf_2 (Post : Int32 → XS → Prop) (a0 : Int32) (S : XS) : Prop := ∀ K : Hd_X1_voicesOf_2 → XS → Prop, (∀ h S, B_X1_voicesOf_2 Post K h S → K h S) → K (a0, 0, 0) S
set_option maxHeartbeats 4000000 in
set_option maxRecDepth 100000 in
theorem h_X1_voicesOf_2_0 {p : Program} {l : Launch} {e : Env} {s : State} {m : MethodId} {below : List Frame} {meth : Method} {c : Code} {dC : Nat → ClassId} {dI : Nat → Nat → Nat} {q : Nat → Nat} {cI cT : ClassId} {en : Nat → Nat} {A : Nat → Prop} {args : Array Value} {Post : Int32 → XS → Prop} {K : Hd_X1_voicesOf_2 → XS → Prop} (X : XX p s m args c cX1_voicesOf 4 ww_X1_voicesOf_2 RX1 dC dI cI cT en A) (hr : meth.sig.returnType = (some .int)) (hlocks : meth.locks = false) (hK0 : ∀ (x1 : Int32) (x2 : Int32) (x3 : Int32) (S : XS), K (x1, x2, x3) S → ∀ (H : Heap) (locs : List Loc), va_P (dC, dI) vwCl (wX q cI cT S) H → va_D A (wX q cI cT S) → va_S A s.heap H locs → ∀ ls : Array Slot, lv_has ls 4 [(0, .ref (q 2)), (1, .int x1), (2, .int x2), (3, .int x3)] → W p l e (headSpec ww_X1_voicesOf_2 ({ frames := 0, cells := 0, slots := 0, locals := 0 } : Room)).room s m args below meth c H locs 0 0 (MQ below (va_Qi Post (atX dC dI q cI cT A) A) args s 0 0 A) (F0 m 4 ls [])) (x1 : Int32) (x2 : Int32) (x3 : Int32) (S : XS) (h : B_X1_voicesOf_2 Post K (x1, x2, x3) S) : ∀ (H : Heap) (locs : List Loc), va_P (dC, dI) vwCl (wX q cI cT S) H → va_D A (wX q cI cT S) → va_S A s.heap H locs → ∀ ls : Array Slot, lv_has ls 4 [(0, .ref (q 2)), (1, .int x1), (2, .int x2), (3, .int x3)] → W p l e (headSpec ww_X1_voicesOf_2 ({ frames := 0, cells := 0, slots := 0, locals := 0 } : Room)).room s m args below meth c H locs 0 0 (MQ below (va_Qi Post (atX dC dI q cI cT A) A) args s 0 0 A) (F0 m 4 ls []) := by
  have hx := X.1
  have hb := X.2.1
  intro H locs hP hD hS ls hl
  have lk24 := X.2.2.2.2.1 (.fieldLink RX1 24 "BreathOnLoan$Crew" "count" "I") (inX 36 rfl)
  have lk15 := X.2.2.2.2.1 (.fieldLink RX1 15 "BreathOnLoan$Crew" "voice" "[I") (inX 32 rfl)
  dsimp only [B_X1_voicesOf_2] at h
  refine lv_iload_n hx hb (dk DX1_voicesOf 4 rfl) rfl (lv_at hl 3 rfl) ?_
  refine lv_aload_n hx hb (dk DX1_voicesOf 5 rfl) rfl (lv_at hl 0 rfl) ?_
  refine gX_2 X hP 0 (by decide) rfl lk24 (dk DX1_voicesOf 6 rfl) ?_
  refine lv_icmp_ge (tgt := 37) hx hb (dk DX1_voicesOf 7 rfl) (by decide) (fun hc => ?_) (fun hc => ?_)
  · have h := h.1 hc
    refine lv_iload_n hx hb (dk DX1_voicesOf 25 rfl) rfl (lv_at hl 2 rfl) ?_
    exact W.iret (v := x2) hx hb hr (fun t ht hW => ⟨⟨_, _, rfl, h, by rw [ht]; exact hP, va_K.moved hW.alike X.2.2.2.2.2.2.1, hD⟩, hS.F ht⟩) hS.2.2 (dk DX1_voicesOf 26 rfl)
  · have h := h.2 hc
    refine lv_iload_n hx hb (dk DX1_voicesOf 8 rfl) rfl (lv_at hl 1 rfl) ?_
    refine lv_iload_n hx hb (dk DX1_voicesOf 9 rfl) rfl (lv_at hl 3 rfl) ?_
    refine lv_ishr hx hb (dk DX1_voicesOf 10 rfl) ?_
    refine lv_iconst (v := 1) hx hb (dk DX1_voicesOf 11 rfl) (by decide) ?_
    refine lv_iand hx hb (dk DX1_voicesOf 12 rfl) ?_
    refine lv_if_eq (tgt := 31) hx hb (dk DX1_voicesOf 13 rfl) (by decide) (fun hc => ?_) (fun hc => ?_)
    · have h := h.1 hc
      obtain ⟨v1, ev1⟩ : ∃ y : Int32, y = x3 + 1 := ⟨_, rfl⟩
      have h := h v1 ev1
      refine lv_iinc (v := v1) (lv' := [(3, .int v1), (0, .ref (q 2)), (1, .int x1), (2, .int x2)]) hx hb (dk DX1_voicesOf 23 rfl) hl (k := 3) rfl (by rw [ev1]; rfl) (by decide) rfl (fun ls hl => ?_)
      refine lv_goto (tgt := 4) hx hb (dk DX1_voicesOf 24 rfl) (by decide) ?_
      exact hK0 x1 x2 v1 S h _ _ hP hD hS ls (lv_sub hl [1, 2, 3, 0] rfl)
    · have h := h.2 hc
      refine lv_iload_n hx hb (dk DX1_voicesOf 14 rfl) rfl (lv_at hl 2 rfl) ?_
      refine lv_iconst (v := 1) hx hb (dk DX1_voicesOf 15 rfl) (by decide) ?_
      refine lv_aload_n hx hb (dk DX1_voicesOf 16 rfl) rfl (lv_at hl 0 rfl) ?_
      refine gX_2 X hP 2 (by decide) rfl lk15 (dk DX1_voicesOf 17 rfl) ?_
      refine lv_iload_n hx hb (dk DX1_voicesOf 18 rfl) rfl (lv_at hl 3 rfl) ?_
      obtain ⟨hin, h⟩ := h
      refine ldX_4 X hP hin (dk DX1_voicesOf 19 rfl) ?_
      refine lv_ishl hx hb (dk DX1_voicesOf 20 rfl) ?_
      refine lv_ior hx hb (dk DX1_voicesOf 21 rfl) ?_
      refine lv_topi (fun v2 ev2 => ?_)
      have h := h v2 ev2
      refine lv_istore_n (lv' := [(2, .int v2), (0, .ref (q 2)), (1, .int x1), (3, .int x3)]) hx hb (dk DX1_voicesOf 22 rfl) rfl hl (by decide) rfl (fun ls hl => ?_)
      obtain ⟨v3, ev3⟩ : ∃ y : Int32, y = x3 + 1 := ⟨_, rfl⟩
      have h := h v3 ev3
      refine lv_iinc (v := v3) (lv' := [(3, .int v3), (2, .int v2), (0, .ref (q 2)), (1, .int x1)]) hx hb (dk DX1_voicesOf 23 rfl) hl (k := 3) rfl (by rw [ev3]; rfl) (by decide) rfl (fun ls hl => ?_)
      refine lv_goto (tgt := 4) hx hb (dk DX1_voicesOf 24 rfl) (by decide) ?_
      exact hK0 x1 v2 v3 S h _ _ hP hD hS ls (lv_sub hl [2, 3, 1, 0] rfl)
set_option maxHeartbeats 4000000 in
set_option maxRecDepth 100000 in
theorem m_X1_voicesOf_2 {l : Launch} {dC : Nat → ClassId} {dI : Nat → Nat → Nat} {q : Nat → Nat} {cI cT : ClassId} {en : Nat → Nat} {sz : Nat} {Post : Int32 → XS → Prop} (a0 : Int32) (S : XS) (h : VC_X1_voicesOf_2 Post a0 S) : Met l yX1_voicesOf ww_X1_voicesOf_2 ({ frames := 0, cells := 0, slots := 0, locals := 0 } : Room) (va_Pc [.ref (q 2), .int a0] (preX dC dI q cI cT en S sz)) (va_Qi Post (atX dC dI q cI cT (va_A (wX q cI cT S) sz)) (va_A (wX q cI cT S) sz)) 0 0 (va_A (wX q cI cT S) sz) := by
  refine oX (cc := cX1_voicesOf) (maxL := 4) (ret := (some .int)) (Qc := fun A => va_Qi Post (atX dC dI q cI cT A) A) (own := RX1) (by decide) rfl (fun w h => List.mem_cons_of_mem _ (List.mem_append_right _ h)) rfl (Nat.le_of_ble_eq_true rfl) (fun p e s m below meth c A ls X hr hlocks hP hD hS hl => ?_)
  have hx := X.1
  have hb := X.2.1
  have hl : lv_has ls 4 [(0, .ref (q 2)), (1, .int a0)] := hl
  have lk24 := X.2.2.2.2.1 (.fieldLink RX1 24 "BreathOnLoan$Crew" "count" "I") (inX 36 rfl)
  have lk15 := X.2.2.2.2.1 (.fieldLink RX1 15 "BreathOnLoan$Crew" "voice" "[I") (inX 32 rfl)
  generalize hargs : ([.ref (q 2), .int a0] : List Value).toArray = args at X ⊢
  have h := h (fun hd S => match hd with | (x1, x2, x3) => ∀ (H : Heap) (locs : List Loc), va_P (dC, dI) vwCl (wX q cI cT S) H → va_D A (wX q cI cT S) → va_S A s.heap H locs → ∀ ls : Array Slot, lv_has ls 4 [(0, .ref (q 2)), (1, .int x1), (2, .int x2), (3, .int x3)] → W p l e (headSpec ww_X1_voicesOf_2 ({ frames := 0, cells := 0, slots := 0, locals := 0 } : Room)).room s m args below meth c H locs 0 0 (MQ below (va_Qi Post (atX dC dI q cI cT A) A) args s 0 0 A) (F0 m 4 ls [])) ?_
  · skip
    refine lv_iconst (v := 0) hx hb (dk DX1_voicesOf 0 rfl) (by decide) ?_
    refine lv_istore_n (lv' := [(2, .int 0), (0, .ref (q 2)), (1, .int a0)]) hx hb (dk DX1_voicesOf 1 rfl) rfl hl (by decide) rfl (fun ls hl => ?_)
    refine lv_iconst (v := 0) hx hb (dk DX1_voicesOf 2 rfl) (by decide) ?_
    refine lv_istore_n (lv' := [(3, .int 0), (2, .int 0), (0, .ref (q 2)), (1, .int a0)]) hx hb (dk DX1_voicesOf 3 rfl) rfl hl (by decide) rfl (fun ls hl => ?_)
    exact h _ _ hP hD hS ls (lv_sub hl [2, 3, 1, 0] rfl)
  · rintro ⟨x1, x2, x3⟩ S hB
    exact h_X1_voicesOf_2_0 X hr hlocks (hK0 := fun _ _ _ _ h => h) x1 x2 x3 S hB

def ww_J6_bitCount_0f7a4 : List Cond := .code yJ6_bitCount_0f7a4 cJ6_bitCount_0f7a4 1 (some .int) :: (WdX ++ WsX)
theorem q_J6_bitCount_0f7a4 : yJ6_bitCount_0f7a4.cls ≠ "java/lang/invoke/MethodHandle" ∧ yJ6_bitCount_0f7a4.cls ≠ "java/lang/invoke/VarHandle" ∧ (parseMethodDescriptor yJ6_bitCount_0f7a4.desc).map (fun d => d.parameters.length) = some 1 := by decide +kernel
def VC_J6_bitCount_0f7a4 (Post : Int32 → Prop) (a0 : Int32) : Prop := ∀ v1 : Int32, v1 = a0 - (((a0.toUInt32 >>> ((1 : Int32).toUInt32 &&& Int32.toUInt32 31)).toInt32) &&& (1431655765)) → ∀ v2 : Int32, v2 = (v1 &&& (858993459)) + (((v1.toUInt32 >>> ((2 : Int32).toUInt32 &&& Int32.toUInt32 31)).toInt32) &&& (858993459)) → ∀ v3 : Int32, v3 = (v2 + ((v2.toUInt32 >>> ((4 : Int32).toUInt32 &&& Int32.toUInt32 31)).toInt32)) &&& (252645135) → ∀ v4 : Int32, v4 = v3 + ((v3.toUInt32 >>> ((8 : Int32).toUInt32 &&& Int32.toUInt32 31)).toInt32) → ∀ v5 : Int32, v5 = v4 + ((v4.toUInt32 >>> ((16 : Int32).toUInt32 &&& Int32.toUInt32 31)).toInt32) → Post (v5 &&& 63)
set_option maxHeartbeats 4000000 in
set_option maxRecDepth 100000 in
theorem m_J6_bitCount_0f7a4 {l : Launch} {Post : Int32 → Prop} (a0 : Int32) (h : VC_J6_bitCount_0f7a4 Post a0) : Met l yJ6_bitCount_0f7a4 ww_J6_bitCount_0f7a4 ({ frames := 0, cells := 0, slots := 0, locals := 0 } : Room) (va_Pc [.int a0] (fun _ => True)) (vp_Si Post) 0 0 (fun _ => False) := by
  refine oS (cc := cJ6_bitCount_0f7a4) (maxL := 1) (ret := (some .int)) (Qc := vp_Si Post) (by decide) rfl (Nat.le_of_ble_eq_true rfl) (fun p e s m below meth c ls X hr hlocks hl => ?_)
  have hx := X.1
  have hb := X.2.1
  have hP := trivial
  have hD := trivial
  have hS := trivial
  have hl : lv_has ls 1 [(0, .int a0)] := hl
  dsimp only [VC_J6_bitCount_0f7a4] at h
  refine lv_iload_n hx hb (dk DJ6_bitCount_0f7a4 0 rfl) rfl (lv_at hl 0 rfl) ?_
  refine lv_iload_n hx hb (dk DJ6_bitCount_0f7a4 1 rfl) rfl (lv_at hl 0 rfl) ?_
  refine lv_iconst (v := 1) hx hb (dk DJ6_bitCount_0f7a4 2 rfl) (by decide) ?_
  refine lv_iushr hx hb (dk DJ6_bitCount_0f7a4 3 rfl) rfl ?_
  refine lv_ldcw (v := (1431655765)) hx hb X.2.2.2.1 (X.2.2.2.2 (.constant RJ6 265 (1431655765)) (inX 45 rfl)) (dk DJ6_bitCount_0f7a4 4 rfl) ?_
  refine lv_iand hx hb (dk DJ6_bitCount_0f7a4 5 rfl) ?_
  refine lv_isub hx hb (dk DJ6_bitCount_0f7a4 6 rfl) ?_
  refine lv_topi (fun v1 ev1 => ?_)
  have h := h v1 ev1
  refine lv_istore_n (lv' := [(0, .int v1)]) hx hb (dk DJ6_bitCount_0f7a4 7 rfl) rfl hl (by decide) rfl (fun ls hl => ?_)
  refine lv_iload_n hx hb (dk DJ6_bitCount_0f7a4 8 rfl) rfl (lv_at hl 0 rfl) ?_
  refine lv_ldcw (v := (858993459)) hx hb X.2.2.2.1 (X.2.2.2.2 (.constant RJ6 266 (858993459)) (inX 46 rfl)) (dk DJ6_bitCount_0f7a4 9 rfl) ?_
  refine lv_iand hx hb (dk DJ6_bitCount_0f7a4 10 rfl) ?_
  refine lv_iload_n hx hb (dk DJ6_bitCount_0f7a4 11 rfl) rfl (lv_at hl 0 rfl) ?_
  refine lv_iconst (v := 2) hx hb (dk DJ6_bitCount_0f7a4 12 rfl) (by decide) ?_
  refine lv_iushr hx hb (dk DJ6_bitCount_0f7a4 13 rfl) rfl ?_
  refine lv_ldcw (v := (858993459)) hx hb X.2.2.2.1 (X.2.2.2.2 (.constant RJ6 266 (858993459)) (inX 46 rfl)) (dk DJ6_bitCount_0f7a4 14 rfl) ?_
  refine lv_iand hx hb (dk DJ6_bitCount_0f7a4 15 rfl) ?_
  refine lv_iadd hx hb (dk DJ6_bitCount_0f7a4 16 rfl) ?_
  refine lv_topi (fun v2 ev2 => ?_)
  have h := h v2 ev2
  refine lv_istore_n (lv' := [(0, .int v2)]) hx hb (dk DJ6_bitCount_0f7a4 17 rfl) rfl hl (by decide) rfl (fun ls hl => ?_)
  refine lv_iload_n hx hb (dk DJ6_bitCount_0f7a4 18 rfl) rfl (lv_at hl 0 rfl) ?_
  refine lv_iload_n hx hb (dk DJ6_bitCount_0f7a4 19 rfl) rfl (lv_at hl 0 rfl) ?_
  refine lv_iconst (v := 4) hx hb (dk DJ6_bitCount_0f7a4 20 rfl) (by decide) ?_
  refine lv_iushr hx hb (dk DJ6_bitCount_0f7a4 21 rfl) rfl ?_
  refine lv_iadd hx hb (dk DJ6_bitCount_0f7a4 22 rfl) ?_
  refine lv_ldcw (v := (252645135)) hx hb X.2.2.2.1 (X.2.2.2.2 (.constant RJ6 267 (252645135)) (inX 47 rfl)) (dk DJ6_bitCount_0f7a4 23 rfl) ?_
  refine lv_iand hx hb (dk DJ6_bitCount_0f7a4 24 rfl) ?_
  refine lv_topi (fun v3 ev3 => ?_)
  have h := h v3 ev3
  refine lv_istore_n (lv' := [(0, .int v3)]) hx hb (dk DJ6_bitCount_0f7a4 25 rfl) rfl hl (by decide) rfl (fun ls hl => ?_)
  refine lv_iload_n hx hb (dk DJ6_bitCount_0f7a4 26 rfl) rfl (lv_at hl 0 rfl) ?_
  refine lv_iload_n hx hb (dk DJ6_bitCount_0f7a4 27 rfl) rfl (lv_at hl 0 rfl) ?_
  refine lv_bipush (v := 8) hx hb (dk DJ6_bitCount_0f7a4 28 rfl) (by decide) ?_
  refine lv_iushr hx hb (dk DJ6_bitCount_0f7a4 29 rfl) rfl ?_
  refine lv_iadd hx hb (dk DJ6_bitCount_0f7a4 30 rfl) ?_
  refine lv_topi (fun v4 ev4 => ?_)
  have h := h v4 ev4
  refine lv_istore_n (lv' := [(0, .int v4)]) hx hb (dk DJ6_bitCount_0f7a4 31 rfl) rfl hl (by decide) rfl (fun ls hl => ?_)
  refine lv_iload_n hx hb (dk DJ6_bitCount_0f7a4 32 rfl) rfl (lv_at hl 0 rfl) ?_
  refine lv_iload_n hx hb (dk DJ6_bitCount_0f7a4 33 rfl) rfl (lv_at hl 0 rfl) ?_
  refine lv_bipush (v := 16) hx hb (dk DJ6_bitCount_0f7a4 34 rfl) (by decide) ?_
  refine lv_iushr hx hb (dk DJ6_bitCount_0f7a4 35 rfl) rfl ?_
  refine lv_iadd hx hb (dk DJ6_bitCount_0f7a4 36 rfl) ?_
  refine lv_topi (fun v5 ev5 => ?_)
  have h := h v5 ev5
  refine lv_istore_n (lv' := [(0, .int v5)]) hx hb (dk DJ6_bitCount_0f7a4 37 rfl) rfl hl (by decide) rfl (fun ls hl => ?_)
  refine lv_iload_n hx hb (dk DJ6_bitCount_0f7a4 38 rfl) rfl (lv_at hl 0 rfl) ?_
  refine lv_bipush (v := 63) hx hb (dk DJ6_bitCount_0f7a4 39 rfl) (by decide) ?_
  refine lv_iand hx hb (dk DJ6_bitCount_0f7a4 40 rfl) ?_
  exact W.iret (v := v5 &&& 63) hx hb hr (fun t ht hW => ⟨_, rfl, h, ht⟩) (fun _ h => by cases h) (dk DJ6_bitCount_0f7a4 41 rfl)

def ww_X1_quarrelsIn_2 : List Cond := .code yX1_quarrelsIn cX1_quarrelsIn 4 (some .int) :: (WdX ++ WsX)
theorem q_X1_quarrelsIn_2 : yX1_quarrelsIn.cls = RX1 ∧ yX1_quarrelsIn.cls ≠ "java/lang/invoke/MethodHandle" ∧ yX1_quarrelsIn.cls ≠ "java/lang/invoke/VarHandle" ∧ (parseMethodDescriptor yX1_quarrelsIn.desc).map (fun d => d.parameters.length) = some 1 := by decide +kernel
abbrev Hd_X1_quarrelsIn_2 : Type := (Int32 × Int32 × Int32)
def B_X1_quarrelsIn_2 (Post : Int32 → XS → Prop) (K : Hd_X1_quarrelsIn_2 → XS → Prop) : Hd_X1_quarrelsIn_2 → XS → Prop
  | (x1, x2, x3), S => (((S.1 64) ≤ x3 → ¬ (2 : Int32) = 0 ∧ Post (x2 / 2) S) ∧ (¬ (S.1 64) ≤ x3 → ((((x1 >>> (x3 &&& 31)) &&& 1) = 0 → ∀ v1 : Int32, v1 = x3 + 1 → K (x1, x2, v1) S) ∧ (¬ ((x1 >>> (x3 &&& 31)) &&& 1) = 0 → vp_in x3 6 ∧ VC_J6_bitCount_0f7a4 (fun r2 => ∀ v3 : Int32, v3 = x2 + r2 → ∀ v4 : Int32, v4 = x3 + 1 → K (x1, v3, v4) S) (((S.2.1 6) x3.toNatClampNeg) &&& x1)))))
def VC_X1_quarrelsIn_2 (Post : Int32 → XS → Prop) (a0 : Int32) (S : XS) : Prop := ∀ K : Hd_X1_quarrelsIn_2 → XS → Prop, (∀ h S, B_X1_quarrelsIn_2 Post K h S → K h S) → K (a0, 0, 0) S
set_option maxHeartbeats 4000000 in
set_option maxRecDepth 100000 in
theorem h_X1_quarrelsIn_2_0 {p : Program} {l : Launch} {e : Env} {s : State} {m : MethodId} {below : List Frame} {meth : Method} {c : Code} {dC : Nat → ClassId} {dI : Nat → Nat → Nat} {q : Nat → Nat} {cI cT : ClassId} {en : Nat → Nat} {A : Nat → Prop} {args : Array Value} {Post : Int32 → XS → Prop} {K : Hd_X1_quarrelsIn_2 → XS → Prop} (X : XX p s m args c cX1_quarrelsIn 4 ww_X1_quarrelsIn_2 RX1 dC dI cI cT en A) (hr : meth.sig.returnType = (some .int)) (hlocks : meth.locks = false) (hK0 : ∀ (x1 : Int32) (x2 : Int32) (x3 : Int32) (S : XS), K (x1, x2, x3) S → ∀ (H : Heap) (locs : List Loc), va_P (dC, dI) vwCl (wX q cI cT S) H → va_D A (wX q cI cT S) → va_S A s.heap H locs → ∀ ls : Array Slot, lv_has ls 4 [(0, .ref (q 2)), (1, .int x1), (2, .int x2), (3, .int x3)] → W p l e (headSpec ww_X1_quarrelsIn_2 ({ frames := 1, cells := 0, slots := 0, locals := 20 } : Room)).room s m args below meth c H locs 0 0 (MQ below (va_Qi Post (atX dC dI q cI cT A) A) args s 0 0 A) (F0 m 4 ls [])) (x1 : Int32) (x2 : Int32) (x3 : Int32) (S : XS) (h : B_X1_quarrelsIn_2 Post K (x1, x2, x3) S) : ∀ (H : Heap) (locs : List Loc), va_P (dC, dI) vwCl (wX q cI cT S) H → va_D A (wX q cI cT S) → va_S A s.heap H locs → ∀ ls : Array Slot, lv_has ls 4 [(0, .ref (q 2)), (1, .int x1), (2, .int x2), (3, .int x3)] → W p l e (headSpec ww_X1_quarrelsIn_2 ({ frames := 1, cells := 0, slots := 0, locals := 20 } : Room)).room s m args below meth c H locs 0 0 (MQ below (va_Qi Post (atX dC dI q cI cT A) A) args s 0 0 A) (F0 m 4 ls []) := by
  have hx := X.1
  have hb := X.2.1
  intro H locs hP hD hS ls hl
  have lk24 := X.2.2.2.2.1 (.fieldLink RX1 24 "BreathOnLoan$Crew" "count" "I") (inX 36 rfl)
  have lk21 := X.2.2.2.2.1 (.fieldLink RX1 21 "BreathOnLoan$Crew" "foes" "[I") (inX 34 rfl)
  dsimp only [B_X1_quarrelsIn_2] at h
  refine lv_iload_n hx hb (dk DX1_quarrelsIn 4 rfl) rfl (lv_at hl 3 rfl) ?_
  refine lv_aload_n hx hb (dk DX1_quarrelsIn 5 rfl) rfl (lv_at hl 0 rfl) ?_
  refine gX_2 X hP 0 (by decide) rfl lk24 (dk DX1_quarrelsIn 6 rfl) ?_
  refine lv_icmp_ge (tgt := 40) hx hb (dk DX1_quarrelsIn 7 rfl) (by decide) (fun hc => ?_) (fun hc => ?_)
  · have h := h.1 hc
    refine lv_iload_n hx hb (dk DX1_quarrelsIn 26 rfl) rfl (lv_at hl 2 rfl) ?_
    refine lv_iconst (v := 2) hx hb (dk DX1_quarrelsIn 27 rfl) (by decide) ?_
    obtain ⟨hz, h⟩ := h
    refine lv_idiv hx hb (dk DX1_quarrelsIn 28 rfl) hz ?_
    exact W.iret (v := x2 / 2) hx hb hr (fun t ht hW => ⟨⟨_, _, rfl, h, by rw [ht]; exact hP, va_K.moved hW.alike X.2.2.2.2.2.2.1, hD⟩, hS.F ht⟩) hS.2.2 (dk DX1_quarrelsIn 29 rfl)
  · have h := h.2 hc
    refine lv_iload_n hx hb (dk DX1_quarrelsIn 8 rfl) rfl (lv_at hl 1 rfl) ?_
    refine lv_iload_n hx hb (dk DX1_quarrelsIn 9 rfl) rfl (lv_at hl 3 rfl) ?_
    refine lv_ishr hx hb (dk DX1_quarrelsIn 10 rfl) ?_
    refine lv_iconst (v := 1) hx hb (dk DX1_quarrelsIn 11 rfl) (by decide) ?_
    refine lv_iand hx hb (dk DX1_quarrelsIn 12 rfl) ?_
    refine lv_if_eq (tgt := 34) hx hb (dk DX1_quarrelsIn 13 rfl) (by decide) (fun hc => ?_) (fun hc => ?_)
    · have h := h.1 hc
      obtain ⟨v1, ev1⟩ : ∃ y : Int32, y = x3 + 1 := ⟨_, rfl⟩
      have h := h v1 ev1
      refine lv_iinc (v := v1) (lv' := [(3, .int v1), (0, .ref (q 2)), (1, .int x1), (2, .int x2)]) hx hb (dk DX1_quarrelsIn 24 rfl) hl (k := 3) rfl (by rw [ev1]; rfl) (by decide) rfl (fun ls hl => ?_)
      refine lv_goto (tgt := 4) hx hb (dk DX1_quarrelsIn 25 rfl) (by decide) ?_
      exact hK0 x1 x2 v1 S h _ _ hP hD hS ls (lv_sub hl [1, 2, 3, 0] rfl)
    · have h := h.2 hc
      refine lv_iload_n hx hb (dk DX1_quarrelsIn 14 rfl) rfl (lv_at hl 2 rfl) ?_
      refine lv_aload_n hx hb (dk DX1_quarrelsIn 15 rfl) rfl (lv_at hl 0 rfl) ?_
      refine gX_2 X hP 4 (by decide) rfl lk21 (dk DX1_quarrelsIn 16 rfl) ?_
      refine lv_iload_n hx hb (dk DX1_quarrelsIn 17 rfl) rfl (lv_at hl 3 rfl) ?_
      obtain ⟨hin, h⟩ := h
      refine ldX_6 X hP hin (dk DX1_quarrelsIn 18 rfl) ?_
      refine lv_iload_n hx hb (dk DX1_quarrelsIn 19 rfl) rfl (lv_at hl 1 rfl) ?_
      refine lv_iand hx hb (dk DX1_quarrelsIn 20 rfl) ?_
      refine cSi (As := [.int (((S.2.1 6) x3.toNatClampNeg) &&& x1)]) (rest := [.int x2]) ⟨X.1, X.2.1, X.2.2.1, X.2.2.2.1, X.2.2.2.2.1⟩ (m_J6_bitCount_0f7a4 (l := l) (((S.2.1 6) x3.toNatClampNeg) &&& x1) h) (va_cwS 1 X.2.2.2.2.1 (gxS 49 50 51 44 rfl rfl rfl rfl) rfl rfl rfl q_J6_bitCount_0f7a4 ⟨Nat.le_of_ble_eq_true rfl, Nat.le_of_ble_eq_true rfl⟩) rfl hl.1 rfl (Nat.le_of_ble_eq_true rfl) (dk DX1_quarrelsIn 21 rfl) (fun r2 h => ?_)
      refine lv_iadd hx hb (dk DX1_quarrelsIn 22 rfl) ?_
      refine lv_topi (fun v3 ev3 => ?_)
      have h := h v3 ev3
      refine lv_istore_n (lv' := [(2, .int v3), (0, .ref (q 2)), (1, .int x1), (3, .int x3)]) hx hb (dk DX1_quarrelsIn 23 rfl) rfl hl (by decide) rfl (fun ls hl => ?_)
      obtain ⟨v4, ev4⟩ : ∃ y : Int32, y = x3 + 1 := ⟨_, rfl⟩
      have h := h v4 ev4
      refine lv_iinc (v := v4) (lv' := [(3, .int v4), (2, .int v3), (0, .ref (q 2)), (1, .int x1)]) hx hb (dk DX1_quarrelsIn 24 rfl) hl (k := 3) rfl (by rw [ev4]; rfl) (by decide) rfl (fun ls hl => ?_)
      refine lv_goto (tgt := 4) hx hb (dk DX1_quarrelsIn 25 rfl) (by decide) ?_
      exact hK0 x1 v3 v4 S h _ _ hP hD hS ls (lv_sub hl [2, 3, 1, 0] rfl)
set_option maxHeartbeats 4000000 in
set_option maxRecDepth 100000 in
theorem m_X1_quarrelsIn_2 {l : Launch} {dC : Nat → ClassId} {dI : Nat → Nat → Nat} {q : Nat → Nat} {cI cT : ClassId} {en : Nat → Nat} {sz : Nat} {Post : Int32 → XS → Prop} (a0 : Int32) (S : XS) (h : VC_X1_quarrelsIn_2 Post a0 S) : Met l yX1_quarrelsIn ww_X1_quarrelsIn_2 ({ frames := 1, cells := 0, slots := 0, locals := 20 } : Room) (va_Pc [.ref (q 2), .int a0] (preX dC dI q cI cT en S sz)) (va_Qi Post (atX dC dI q cI cT (va_A (wX q cI cT S) sz)) (va_A (wX q cI cT S) sz)) 0 0 (va_A (wX q cI cT S) sz) := by
  refine oX (cc := cX1_quarrelsIn) (maxL := 4) (ret := (some .int)) (Qc := fun A => va_Qi Post (atX dC dI q cI cT A) A) (own := RX1) (by decide) rfl (fun w h => List.mem_cons_of_mem _ (List.mem_append_right _ h)) rfl (Nat.le_of_ble_eq_true rfl) (fun p e s m below meth c A ls X hr hlocks hP hD hS hl => ?_)
  have hx := X.1
  have hb := X.2.1
  have hl : lv_has ls 4 [(0, .ref (q 2)), (1, .int a0)] := hl
  have lk24 := X.2.2.2.2.1 (.fieldLink RX1 24 "BreathOnLoan$Crew" "count" "I") (inX 36 rfl)
  have lk21 := X.2.2.2.2.1 (.fieldLink RX1 21 "BreathOnLoan$Crew" "foes" "[I") (inX 34 rfl)
  generalize hargs : ([.ref (q 2), .int a0] : List Value).toArray = args at X ⊢
  have h := h (fun hd S => match hd with | (x1, x2, x3) => ∀ (H : Heap) (locs : List Loc), va_P (dC, dI) vwCl (wX q cI cT S) H → va_D A (wX q cI cT S) → va_S A s.heap H locs → ∀ ls : Array Slot, lv_has ls 4 [(0, .ref (q 2)), (1, .int x1), (2, .int x2), (3, .int x3)] → W p l e (headSpec ww_X1_quarrelsIn_2 ({ frames := 1, cells := 0, slots := 0, locals := 20 } : Room)).room s m args below meth c H locs 0 0 (MQ below (va_Qi Post (atX dC dI q cI cT A) A) args s 0 0 A) (F0 m 4 ls [])) ?_
  · skip
    refine lv_iconst (v := 0) hx hb (dk DX1_quarrelsIn 0 rfl) (by decide) ?_
    refine lv_istore_n (lv' := [(2, .int 0), (0, .ref (q 2)), (1, .int a0)]) hx hb (dk DX1_quarrelsIn 1 rfl) rfl hl (by decide) rfl (fun ls hl => ?_)
    refine lv_iconst (v := 0) hx hb (dk DX1_quarrelsIn 2 rfl) (by decide) ?_
    refine lv_istore_n (lv' := [(3, .int 0), (2, .int 0), (0, .ref (q 2)), (1, .int a0)]) hx hb (dk DX1_quarrelsIn 3 rfl) rfl hl (by decide) rfl (fun ls hl => ?_)
    exact h _ _ hP hD hS ls (lv_sub hl [2, 3, 1, 0] rfl)
  · rintro ⟨x1, x2, x3⟩ S hB
    exact h_X1_quarrelsIn_2_0 X hr hlocks (hK0 := fun _ _ _ _ h => h) x1 x2 x3 S hB

def ww_X10_has_7 : List Cond := .code yX10_has cX10_has 2 (some .boolean) :: (WdX ++ WsX)
theorem q_X10_has_7 : yX10_has.cls = RX10 ∧ yX10_has.cls ≠ "java/lang/invoke/MethodHandle" ∧ yX10_has.cls ≠ "java/lang/invoke/VarHandle" ∧ (parseMethodDescriptor yX10_has.desc).map (fun d => d.parameters.length) = some 1 := by decide +kernel
def VC_X10_has_7 (Post : Int32 → XS → Prop) (a0 : Int32) (S : XS) : Prop := ((a0 < 0 → Post 0 S) ∧ (¬ a0 < 0 → (((S.1 224) ≤ a0 → Post 0 S) ∧ (¬ (S.1 224) ≤ a0 → Post 1 S))))
set_option maxHeartbeats 4000000 in
set_option maxRecDepth 100000 in
theorem m_X10_has_7 {l : Launch} {dC : Nat → ClassId} {dI : Nat → Nat → Nat} {q : Nat → Nat} {cI cT : ClassId} {en : Nat → Nat} {sz : Nat} {Post : Int32 → XS → Prop} (a0 : Int32) (S : XS) (h : VC_X10_has_7 Post a0 S) : Met l yX10_has ww_X10_has_7 ({ frames := 0, cells := 0, slots := 0, locals := 0 } : Room) (va_Pc [.ref (q 7), .int a0] (preX dC dI q cI cT en S sz)) (va_Qi Post (atX dC dI q cI cT (va_A (wX q cI cT S) sz)) (va_A (wX q cI cT S) sz)) 0 0 (va_A (wX q cI cT S) sz) := by
  refine oX (cc := cX10_has) (maxL := 2) (ret := (some .boolean)) (Qc := fun A => va_Qi Post (atX dC dI q cI cT A) A) (own := RX10) (by decide) rfl (fun w h => List.mem_cons_of_mem _ (List.mem_append_right _ h)) rfl (Nat.le_of_ble_eq_true rfl) (fun p e s m below meth c A ls X hr hlocks hP hD hS hl => ?_)
  have hx := X.1
  have hb := X.2.1
  have hl : lv_has ls 2 [(0, .ref (q 7)), (1, .int a0)] := hl
  have lk21 := X.2.2.2.2.1 (.fieldLink RX10 21 "BreathOnLoan$Wares" "count" "I") (inX 136 rfl)
  dsimp only [VC_X10_has_7] at h
  refine lv_iload_n hx hb (dk DX10_has 0 rfl) rfl (lv_at hl 1 rfl) ?_
  refine lv_if_lt (tgt := 16) hx hb (dk DX10_has 1 rfl) (by decide) (fun hc => ?_) (fun hc => ?_)
  · have h := h.1 hc
    refine lv_iconst (v := 0) hx hb (dk DX10_has 8 rfl) (by decide) ?_
    exact W.zret (v := 0) hx hb hr (by decide) (fun t ht hW => ⟨⟨_, _, rfl, h, by rw [ht]; exact hP, va_K.moved hW.alike X.2.2.2.2.2.2.1, hD⟩, hS.F ht⟩) hS.2.2 (dk DX10_has 9 rfl)
  · have h := h.2 hc
    refine lv_iload_n hx hb (dk DX10_has 2 rfl) rfl (lv_at hl 1 rfl) ?_
    refine lv_aload_n hx hb (dk DX10_has 3 rfl) rfl (lv_at hl 0 rfl) ?_
    refine gX_7 X hP 0 (by decide) rfl lk21 (dk DX10_has 4 rfl) ?_
    refine lv_icmp_ge (tgt := 16) hx hb (dk DX10_has 5 rfl) (by decide) (fun hc => ?_) (fun hc => ?_)
    · have h := h.1 hc
      refine lv_iconst (v := 0) hx hb (dk DX10_has 8 rfl) (by decide) ?_
      exact W.zret (v := 0) hx hb hr (by decide) (fun t ht hW => ⟨⟨_, _, rfl, h, by rw [ht]; exact hP, va_K.moved hW.alike X.2.2.2.2.2.2.1, hD⟩, hS.F ht⟩) hS.2.2 (dk DX10_has 9 rfl)
    · have h := h.2 hc
      refine lv_iconst (v := 1) hx hb (dk DX10_has 6 rfl) (by decide) ?_
      refine lv_goto (tgt := 17) hx hb (dk DX10_has 7 rfl) (by decide) ?_
      exact W.zret (v := 1) hx hb hr (by decide) (fun t ht hW => ⟨⟨_, _, rfl, h, by rw [ht]; exact hP, va_K.moved hW.alike X.2.2.2.2.2.2.1, hD⟩, hS.F ht⟩) hS.2.2 (dk DX10_has 9 rfl)

def ww_X10_add_7 : List Cond := .code yX10_add cX10_add 4 (some .int) :: (WdX ++ WsX)
theorem q_X10_add_7 : yX10_add.cls = RX10 ∧ yX10_add.cls ≠ "java/lang/invoke/MethodHandle" ∧ yX10_add.cls ≠ "java/lang/invoke/VarHandle" ∧ (parseMethodDescriptor yX10_add.desc).map (fun d => d.parameters.length) = some 3 := by decide +kernel
def VC_X10_add_7 (Post : Int32 → XS → Prop) (a0 : Int32) (a1 : Int32) (a2 : Int32) (S : XS) : Prop := (((S.1 224) < 6 → vp_in (S.1 224) 6 ∧ ∀ S1 : XS, S1 = xF S 8 (upd (S.2.1 8) (S.1 224).toNatClampNeg a0) → vp_in (S1.1 224) 6 ∧ ∀ S2 : XS, S2 = xF S1 9 (upd (S1.2.1 9) (S1.1 224).toNatClampNeg a1) → vp_in (S2.1 224) 6 ∧ ∀ S3 : XS, S3 = xF S2 10 (upd (S2.2.1 10) (S2.1 224).toNatClampNeg a2) → ∀ v4 : Int32, v4 = (S3.1 224) + 1 → ∀ S5 : XS, S5 = xI S3 224 v4 → Post ((S5.1 224) - 1) S5) ∧ (¬ (S.1 224) < 6 → Post (-1) S))
set_option maxHeartbeats 4000000 in
set_option maxRecDepth 100000 in
theorem m_X10_add_7 {l : Launch} {dC : Nat → ClassId} {dI : Nat → Nat → Nat} {q : Nat → Nat} {cI cT : ClassId} {en : Nat → Nat} {sz : Nat} {Post : Int32 → XS → Prop} (a0 : Int32) (a1 : Int32) (a2 : Int32) (S : XS) (h : VC_X10_add_7 Post a0 a1 a2 S) : Met l yX10_add ww_X10_add_7 ({ frames := 0, cells := 0, slots := 0, locals := 0 } : Room) (va_Pc [.ref (q 7), .int a0, .int a1, .int a2] (preX dC dI q cI cT en S sz)) (va_Qi Post (atX dC dI q cI cT (va_A (wX q cI cT S) sz)) (va_A (wX q cI cT S) sz)) 0 0 (va_A (wX q cI cT S) sz) := by
  refine oX (cc := cX10_add) (maxL := 4) (ret := (some .int)) (Qc := fun A => va_Qi Post (atX dC dI q cI cT A) A) (own := RX10) (by decide) rfl (fun w h => List.mem_cons_of_mem _ (List.mem_append_right _ h)) rfl (Nat.le_of_ble_eq_true rfl) (fun p e s m below meth c A ls X hr hlocks hP hD hS hl => ?_)
  have hx := X.1
  have hb := X.2.1
  have hl : lv_has ls 4 [(0, .ref (q 7)), (1, .int a0), (2, .int a1), (3, .int a2)] := hl
  have lk21 := X.2.2.2.2.1 (.fieldLink RX10 21 "BreathOnLoan$Wares" "count" "I") (inX 136 rfl)
  have lk9 := X.2.2.2.2.1 (.fieldLink RX10 9 "BreathOnLoan$Wares" "want" "[I") (inX 475 rfl)
  have lk15 := X.2.2.2.2.1 (.fieldLink RX10 15 "BreathOnLoan$Wares" "voices" "[I") (inX 476 rfl)
  have lk18 := X.2.2.2.2.1 (.fieldLink RX10 18 "BreathOnLoan$Wares" "worth" "[I") (inX 477 rfl)
  dsimp only [VC_X10_add_7] at h
  refine lv_aload_n hx hb (dk DX10_add 0 rfl) rfl (lv_at hl 0 rfl) ?_
  refine gX_7 X hP 0 (by decide) rfl lk21 (dk DX10_add 1 rfl) ?_
  refine lv_bipush (v := 6) hx hb (dk DX10_add 2 rfl) (by decide) ?_
  refine lv_icmp_lt (tgt := 11) hx hb (dk DX10_add 3 rfl) (by decide) (fun hc => ?_) (fun hc => ?_)
  · have h := h.1 hc
    refine lv_aload_n hx hb (dk DX10_add 6 rfl) rfl (lv_at hl 0 rfl) ?_
    refine gX_7 X hP 1 (by decide) rfl lk9 (dk DX10_add 7 rfl) ?_
    refine lv_aload_n hx hb (dk DX10_add 8 rfl) rfl (lv_at hl 0 rfl) ?_
    refine gX_7 X hP 0 (by decide) rfl lk21 (dk DX10_add 9 rfl) ?_
    refine lv_iload_n hx hb (dk DX10_add 10 rfl) rfl (lv_at hl 1 rfl) ?_
    obtain ⟨hin, h⟩ := h
    refine stX_8 X hP hD hS hin (dk DX10_add 11 rfl) (fun S1 eS1 H locs hP hD hS => ?_)
    have h := h S1 eS1
    refine lv_aload_n hx hb (dk DX10_add 12 rfl) rfl (lv_at hl 0 rfl) ?_
    refine gX_7 X hP 2 (by decide) rfl lk15 (dk DX10_add 13 rfl) ?_
    refine lv_aload_n hx hb (dk DX10_add 14 rfl) rfl (lv_at hl 0 rfl) ?_
    refine gX_7 X hP 0 (by decide) rfl lk21 (dk DX10_add 15 rfl) ?_
    refine lv_iload_n hx hb (dk DX10_add 16 rfl) rfl (lv_at hl 2 rfl) ?_
    obtain ⟨hin, h⟩ := h
    refine stX_9 X hP hD hS hin (dk DX10_add 17 rfl) (fun S2 eS2 H locs hP hD hS => ?_)
    have h := h S2 eS2
    refine lv_aload_n hx hb (dk DX10_add 18 rfl) rfl (lv_at hl 0 rfl) ?_
    refine gX_7 X hP 3 (by decide) rfl lk18 (dk DX10_add 19 rfl) ?_
    refine lv_aload_n hx hb (dk DX10_add 20 rfl) rfl (lv_at hl 0 rfl) ?_
    refine gX_7 X hP 0 (by decide) rfl lk21 (dk DX10_add 21 rfl) ?_
    refine lv_iload_n hx hb (dk DX10_add 22 rfl) rfl (lv_at hl 3 rfl) ?_
    obtain ⟨hin, h⟩ := h
    refine stX_10 X hP hD hS hin (dk DX10_add 23 rfl) (fun S3 eS3 H locs hP hD hS => ?_)
    have h := h S3 eS3
    refine lv_aload_n hx hb (dk DX10_add 24 rfl) rfl (lv_at hl 0 rfl) ?_
    refine lv_dup hx hb (dk DX10_add 25 rfl) rfl ?_
    refine gX_7 X hP 0 (by decide) rfl lk21 (dk DX10_add 26 rfl) ?_
    refine lv_iconst (v := 1) hx hb (dk DX10_add 27 rfl) (by decide) ?_
    refine lv_iadd hx hb (dk DX10_add 28 rfl) ?_
    refine lv_topi (fun v4 ev4 => ?_)
    have h := h v4 ev4
    refine pX_7_0 X hP hD hS lk21 (dk DX10_add 29 rfl) (fun S5 eS5 H locs hP hD hS => ?_)
    have h := h S5 eS5
    refine lv_aload_n hx hb (dk DX10_add 30 rfl) rfl (lv_at hl 0 rfl) ?_
    refine gX_7 X hP 0 (by decide) rfl lk21 (dk DX10_add 31 rfl) ?_
    refine lv_iconst (v := 1) hx hb (dk DX10_add 32 rfl) (by decide) ?_
    refine lv_isub hx hb (dk DX10_add 33 rfl) ?_
    exact W.iret (v := (S5.1 224) - 1) hx hb hr (fun t ht hW => ⟨⟨_, _, rfl, h, by rw [ht]; exact hP, va_K.moved hW.alike X.2.2.2.2.2.2.1, hD⟩, hS.F ht⟩) hS.2.2 (dk DX10_add 34 rfl)
  · have h := h.2 hc
    refine lv_iconst (v := (-1)) hx hb (dk DX10_add 4 rfl) (by decide) ?_
    exact W.iret (v := (-1)) hx hb hr (fun t ht hW => ⟨⟨_, _, rfl, h, by rw [ht]; exact hP, va_K.moved hW.alike X.2.2.2.2.2.2.1, hD⟩, hS.F ht⟩) hS.2.2 (dk DX10_add 5 rfl)

def ww_X0_has_11 : List Cond := .code yX0_has cX0_has 2 (some .boolean) :: (WdX ++ WsX)
theorem q_X0_has_11 : yX0_has.cls = RX0 ∧ yX0_has.cls ≠ "java/lang/invoke/MethodHandle" ∧ yX0_has.cls ≠ "java/lang/invoke/VarHandle" ∧ (parseMethodDescriptor yX0_has.desc).map (fun d => d.parameters.length) = some 1 := by decide +kernel
def VC_X0_has_11 (Post : Int32 → XS → Prop) (a0 : Int32) (S : XS) : Prop := ((a0 < 0 → Post 0 S) ∧ (¬ a0 < 0 → (((S.1 353) ≤ a0 → Post 0 S) ∧ (¬ (S.1 353) ≤ a0 → Post 1 S))))
set_option maxHeartbeats 4000000 in
set_option maxRecDepth 100000 in
theorem m_X0_has_11 {l : Launch} {dC : Nat → ClassId} {dI : Nat → Nat → Nat} {q : Nat → Nat} {cI cT : ClassId} {en : Nat → Nat} {sz : Nat} {Post : Int32 → XS → Prop} (a0 : Int32) (S : XS) (h : VC_X0_has_11 Post a0 S) : Met l yX0_has ww_X0_has_11 ({ frames := 0, cells := 0, slots := 0, locals := 0 } : Room) (va_Pc [.ref (q 11), .int a0] (preX dC dI q cI cT en S sz)) (va_Qi Post (atX dC dI q cI cT (va_A (wX q cI cT S) sz)) (va_A (wX q cI cT S) sz)) 0 0 (va_A (wX q cI cT S) sz) := by
  refine oX (cc := cX0_has) (maxL := 2) (ret := (some .boolean)) (Qc := fun A => va_Qi Post (atX dC dI q cI cT A) A) (own := RX0) (by decide) rfl (fun w h => List.mem_cons_of_mem _ (List.mem_append_right _ h)) rfl (Nat.le_of_ble_eq_true rfl) (fun p e s m below meth c A ls X hr hlocks hP hD hS hl => ?_)
  have hx := X.1
  have hb := X.2.1
  have hl : lv_has ls 2 [(0, .ref (q 11)), (1, .int a0)] := hl
  have lk21 := X.2.2.2.2.1 (.fieldLink RX0 21 "BreathOnLoan$Bench" "pieces" "I") (inX 9 rfl)
  dsimp only [VC_X0_has_11] at h
  refine lv_iload_n hx hb (dk DX0_has 0 rfl) rfl (lv_at hl 1 rfl) ?_
  refine lv_if_lt (tgt := 16) hx hb (dk DX0_has 1 rfl) (by decide) (fun hc => ?_) (fun hc => ?_)
  · have h := h.1 hc
    refine lv_iconst (v := 0) hx hb (dk DX0_has 8 rfl) (by decide) ?_
    exact W.zret (v := 0) hx hb hr (by decide) (fun t ht hW => ⟨⟨_, _, rfl, h, by rw [ht]; exact hP, va_K.moved hW.alike X.2.2.2.2.2.2.1, hD⟩, hS.F ht⟩) hS.2.2 (dk DX0_has 9 rfl)
  · have h := h.2 hc
    refine lv_iload_n hx hb (dk DX0_has 2 rfl) rfl (lv_at hl 1 rfl) ?_
    refine lv_aload_n hx hb (dk DX0_has 3 rfl) rfl (lv_at hl 0 rfl) ?_
    refine gX_11 X hP 1 (by decide) rfl lk21 (dk DX0_has 4 rfl) ?_
    refine lv_icmp_ge (tgt := 16) hx hb (dk DX0_has 5 rfl) (by decide) (fun hc => ?_) (fun hc => ?_)
    · have h := h.1 hc
      refine lv_iconst (v := 0) hx hb (dk DX0_has 8 rfl) (by decide) ?_
      exact W.zret (v := 0) hx hb hr (by decide) (fun t ht hW => ⟨⟨_, _, rfl, h, by rw [ht]; exact hP, va_K.moved hW.alike X.2.2.2.2.2.2.1, hD⟩, hS.F ht⟩) hS.2.2 (dk DX0_has 9 rfl)
    · have h := h.2 hc
      refine lv_iconst (v := 1) hx hb (dk DX0_has 6 rfl) (by decide) ?_
      refine lv_goto (tgt := 17) hx hb (dk DX0_has 7 rfl) (by decide) ?_
      exact W.zret (v := 1) hx hb hr (by decide) (fun t ht hW => ⟨⟨_, _, rfl, h, by rw [ht]; exact hP, va_K.moved hW.alike X.2.2.2.2.2.2.1, hD⟩, hS.F ht⟩) hS.2.2 (dk DX0_has 9 rfl)

