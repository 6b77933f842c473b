-- X6_pop_15 X7_see_17 X7_mostSeen_17 X7_hear_17 X11_sumOfRows_19 X7_toldSum_17 X8_addFour_41
def ww_X6_pop_15 : List Cond := .code yX6_pop cX6_pop 1 (some .int) :: (WdX ++ WsX)
theorem q_X6_pop_15 : yX6_pop.cls = RX6 ∧ yX6_pop.cls ≠ "java/lang/invoke/MethodHandle" ∧ yX6_pop.cls ≠ "java/lang/invoke/VarHandle" ∧ (parseMethodDescriptor yX6_pop.desc).map (fun d => d.parameters.length) = some 0 := by decide +kernel
def VC_X6_pop_15 (Post : Int32 → XS → Prop) (S : XS) : Prop := ((¬ (S.1 481) = 0 → ∀ v1 : Int32, v1 = (S.1 481) - 1 → ∀ S2 : XS, S2 = xI S 481 v1 → ¬ (30 : Int32) = 0 ∧ Post (8 * (((S2.1 480) + (S2.1 481)) - ((S2.1 480) + (S2.1 481)) / 30 * 30)) S2) ∧ ((S.1 481) = 0 → Post (-1) S))
set_option maxHeartbeats 4000000 in
set_option maxRecDepth 100000 in
theorem m_X6_pop_15 {l : Launch} {dC : Nat → ClassId} {dI : Nat → Nat → Nat} {q : Nat → Nat} {cI cT : ClassId} {en : Nat → Nat} {sz : Nat} {Post : Int32 → XS → Prop} (S : XS) (h : VC_X6_pop_15 Post S) : Met l yX6_pop ww_X6_pop_15 ({ frames := 0, cells := 0, slots := 0, locals := 0 } : Room) (va_Pc [.ref (q 15)] (preX dC dI q cI cT en S sz)) (va_Qi Post (atX dC dI q cI cT (va_A (wX q cI cT S) sz)) (va_A (wX q cI cT S) sz)) 0 0 (va_A (wX q cI cT S) sz) := by
  refine oX (cc := cX6_pop) (maxL := 1) (ret := (some .int)) (Qc := fun A => va_Qi Post (atX dC dI q cI cT A) A) (own := RX6) (by decide) rfl (fun w h => List.mem_cons_of_mem _ (List.mem_append_right _ h)) rfl (Nat.le_of_ble_eq_true rfl) (fun p e s m below meth c A ls X hr hlocks hP hD hS hl => ?_)
  have hx := X.1
  have hb := X.2.1
  have hl : lv_has ls 1 [(0, .ref (q 15))] := hl
  have lk15 := X.2.2.2.2.1 (.fieldLink RX6 15 "BreathOnLoan$Steps" "count" "I") (inX 524 rfl)
  have lk19 := X.2.2.2.2.1 (.fieldLink RX6 19 "BreathOnLoan$Steps" "first" "I") (inX 523 rfl)
  dsimp only [VC_X6_pop_15] at h
  refine lv_aload_n hx hb (dk DX6_pop 0 rfl) rfl (lv_at hl 0 rfl) ?_
  refine gX_15 X hP 1 (by decide) rfl lk15 (dk DX6_pop 1 rfl) ?_
  refine lv_if_ne (tgt := 9) hx hb (dk DX6_pop 2 rfl) (by decide) (fun hc => ?_) (fun hc => ?_)
  · have h := h.1 hc
    refine lv_aload_n hx hb (dk DX6_pop 5 rfl) rfl (lv_at hl 0 rfl) ?_
    refine lv_dup hx hb (dk DX6_pop 6 rfl) rfl ?_
    refine gX_15 X hP 1 (by decide) rfl lk15 (dk DX6_pop 7 rfl) ?_
    refine lv_iconst (v := 1) hx hb (dk DX6_pop 8 rfl) (by decide) ?_
    refine lv_isub hx hb (dk DX6_pop 9 rfl) ?_
    refine lv_topi (fun v1 ev1 => ?_)
    have h := h v1 ev1
    refine pX_15_1 X hP hD hS lk15 (dk DX6_pop 10 rfl) (fun S2 eS2 H locs hP hD hS => ?_)
    have h := h S2 eS2
    refine lv_bipush (v := 8) hx hb (dk DX6_pop 11 rfl) (by decide) ?_
    refine lv_aload_n hx hb (dk DX6_pop 12 rfl) rfl (lv_at hl 0 rfl) ?_
    refine gX_15 X hP 0 (by decide) rfl lk19 (dk DX6_pop 13 rfl) ?_
    refine lv_aload_n hx hb (dk DX6_pop 14 rfl) rfl (lv_at hl 0 rfl) ?_
    refine gX_15 X hP 1 (by decide) rfl lk15 (dk DX6_pop 15 rfl) ?_
    refine lv_iadd hx hb (dk DX6_pop 16 rfl) ?_
    refine lv_bipush (v := 30) hx hb (dk DX6_pop 17 rfl) (by decide) ?_
    obtain ⟨hz, h⟩ := h
    refine lv_irem hx hb (dk DX6_pop 18 rfl) hz ?_
    refine lv_imul hx hb (dk DX6_pop 19 rfl) ?_
    exact W.iret (v := 8 * (((S2.1 480) + (S2.1 481)) - ((S2.1 480) + (S2.1 481)) / 30 * 30)) hx hb hr (fun t ht hW => ⟨⟨_, _, rfl, h, by rw [ht]; exact hP, va_K.moved hW.alike X.2.2.2.2.2.2.1, hD⟩, hS.F ht⟩) hS.2.2 (dk DX6_pop 20 rfl)
  · have h := h.2 hc
    refine lv_iconst (v := (-1)) hx hb (dk DX6_pop 3 rfl) (by decide) ?_
    exact W.iret (v := (-1)) hx hb hr (fun t ht hW => ⟨⟨_, _, rfl, h, by rw [ht]; exact hP, va_K.moved hW.alike X.2.2.2.2.2.2.1, hD⟩, hS.F ht⟩) hS.2.2 (dk DX6_pop 4 rfl)

def ww_X7_see_17 : List Cond := .code yX7_see cX7_see 2 (some .int) :: (WdX ++ WsX)
theorem q_X7_see_17 : yX7_see.cls = RX7 ∧ yX7_see.cls ≠ "java/lang/invoke/MethodHandle" ∧ yX7_see.cls ≠ "java/lang/invoke/VarHandle" ∧ (parseMethodDescriptor yX7_see.desc).map (fun d => d.parameters.length) = some 1 := by decide +kernel
def VC_X7_see_17 (Post : Int32 → XS → Prop) (a0 : Int32) (S : XS) : Prop := ((¬ a0 = (-1) → VC_X11_within (fun r1 => ((r1 = 0 → Post (-2) S) ∧ (¬ r1 = 0 → (((S.1 544) < 8 → vp_in (S.1 544) 8 ∧ ∀ S2 : XS, S2 = xF S 18 (upd (S.2.1 18) (S.1 544).toNatClampNeg a0) → ∀ v3 : Int32, v3 = (S2.1 544) + 1 → ∀ S4 : XS, S4 = xI S2 544 v3 → Post (S4.1 544) S4) ∧ (¬ (S.1 544) < 8 → Post (-2) S))))) a0 0 40) ∧ (a0 = (-1) → ∀ S5 : XS, S5 = xI S 544 0 → Post 0 S5))
set_option maxHeartbeats 4000000 in
set_option maxRecDepth 100000 in
theorem m_X7_see_17 {l : Launch} {dC : Nat → ClassId} {dI : Nat → Nat → Nat} {q : Nat → Nat} {cI cT : ClassId} {en : Nat → Nat} {sz : Nat} {Post : Int32 → XS → Prop} (a0 : Int32) (S : XS) (h : VC_X7_see_17 Post a0 S) : Met l yX7_see ww_X7_see_17 ({ frames := 1, cells := 0, slots := 0, locals := 22 } : Room) (va_Pc [.ref (q 17), .int a0] (preX dC dI q cI cT en S sz)) (va_Qi Post (atX dC dI q cI cT (va_A (wX q cI cT S) sz)) (va_A (wX q cI cT S) sz)) 0 0 (va_A (wX q cI cT S) sz) := by
  refine oX (cc := cX7_see) (maxL := 2) (ret := (some .int)) (Qc := fun A => va_Qi Post (atX dC dI q cI cT A) A) (own := RX7) (by decide) rfl (fun w h => List.mem_cons_of_mem _ (List.mem_append_right _ h)) rfl (Nat.le_of_ble_eq_true rfl) (fun p e s m below meth c A ls X hr hlocks hP hD hS hl => ?_)
  have hx := X.1
  have hb := X.2.1
  have hl : lv_has ls 2 [(0, .ref (q 17)), (1, .int a0)] := hl
  have lk18 := X.2.2.2.2.1 (.fieldLink RX7 18 "BreathOnLoan$Talk" "seenCount" "I") (inX 526 rfl)
  have lk9 := X.2.2.2.2.1 (.fieldLink RX7 9 "BreathOnLoan$Talk" "breathsSeen" "[I") (inX 483 rfl)
  dsimp only [VC_X7_see_17] at h
  refine lv_iload_n hx hb (dk DX7_see 0 rfl) rfl (lv_at hl 1 rfl) ?_
  refine lv_iconst (v := (-1)) hx hb (dk DX7_see 1 rfl) (by decide) ?_
  refine lv_icmp_ne (tgt := 12) hx hb (dk DX7_see 2 rfl) (by decide) (fun hc => ?_) (fun hc => ?_)
  · have h := h.1 hc
    refine lv_iload_n hx hb (dk DX7_see 8 rfl) rfl (lv_at hl 1 rfl) ?_
    refine lv_iconst (v := 0) hx hb (dk DX7_see 9 rfl) (by decide) ?_
    refine lv_bipush (v := 40) hx hb (dk DX7_see 10 rfl) (by decide) ?_
    refine cNi (As := [.int a0, .int 0, .int 40]) (rest := []) ⟨X.1, X.2.1, X.2.2.1, X.2.2.2.1, X.2.2.2.2.1⟩ (m_X11_within (l := l) a0 0 40 h) ⟨va_cnB (host := "BreathOnLoan") 3 X.2.2.2.2.1 (gxB (List.mem_of_getElem? (i := 324) rfl)) rfl rfl rfl (X.2.2.2.2.2.2.2.2.1.1 _ (List.mem_of_getElem? (i := 3) rfl)) (X.2.2.2.2.1 (.initialized RX11) (inX 16 rfl)) q_X11_within ⟨Nat.le_of_ble_eq_true rfl, Nat.le_of_ble_eq_true rfl⟩, X.2.2.2.2.1 (.static yX11_within) (inX 327 rfl), trivial⟩ rfl hl.1 rfl (Nat.le_of_ble_eq_true rfl) (dk DX7_see 11 rfl) (fun r1 h => ?_)
    refine lv_if_eq (tgt := 31) hx hb (dk DX7_see 12 rfl) (by decide) (fun hc => ?_) (fun hc => ?_)
    · have h := h.1 hc
      refine lv_bipush (v := (-2)) hx hb (dk DX7_see 17 rfl) (by decide) ?_
      exact W.iret (v := (-2)) hx hb hr (fun t ht hW => ⟨⟨_, _, rfl, h, by rw [ht]; exact hP, va_K.moved hW.alike X.2.2.2.2.2.2.1, hD⟩, hS.F ht⟩) hS.2.2 (dk DX7_see 18 rfl)
    · have h := h.2 hc
      refine lv_aload_n hx hb (dk DX7_see 13 rfl) rfl (lv_at hl 0 rfl) ?_
      refine gX_17 X hP 0 (by decide) rfl lk18 (dk DX7_see 14 rfl) ?_
      refine lv_bipush (v := 8) hx hb (dk DX7_see 15 rfl) (by decide) ?_
      refine lv_icmp_lt (tgt := 34) hx hb (dk DX7_see 16 rfl) (by decide) (fun hc => ?_) (fun hc => ?_)
      · have h := h.1 hc
        refine lv_aload_n hx hb (dk DX7_see 19 rfl) rfl (lv_at hl 0 rfl) ?_
        refine gX_17 X hP 1 (by decide) rfl lk9 (dk DX7_see 20 rfl) ?_
        refine lv_aload_n hx hb (dk DX7_see 21 rfl) rfl (lv_at hl 0 rfl) ?_
        refine gX_17 X hP 0 (by decide) rfl lk18 (dk DX7_see 22 rfl) ?_
        refine lv_iload_n hx hb (dk DX7_see 23 rfl) rfl (lv_at hl 1 rfl) ?_
        obtain ⟨hin, h⟩ := h
        refine stX_18 X hP hD hS hin (dk DX7_see 24 rfl) (fun S2 eS2 H locs hP hD hS => ?_)
        have h := h S2 eS2
        refine lv_aload_n hx hb (dk DX7_see 25 rfl) rfl (lv_at hl 0 rfl) ?_
        refine lv_dup hx hb (dk DX7_see 26 rfl) rfl ?_
        refine gX_17 X hP 0 (by decide) rfl lk18 (dk DX7_see 27 rfl) ?_
        refine lv_iconst (v := 1) hx hb (dk DX7_see 28 rfl) (by decide) ?_
        refine lv_iadd hx hb (dk DX7_see 29 rfl) ?_
        refine lv_topi (fun v3 ev3 => ?_)
        have h := h v3 ev3
        refine pX_17_0 X hP hD hS lk18 (dk DX7_see 30 rfl) (fun S4 eS4 H locs hP hD hS => ?_)
        have h := h S4 eS4
        refine lv_aload_n hx hb (dk DX7_see 31 rfl) rfl (lv_at hl 0 rfl) ?_
        refine gX_17 X hP 0 (by decide) rfl lk18 (dk DX7_see 32 rfl) ?_
        exact W.iret (v := (S4.1 544)) hx hb hr (fun t ht hW => ⟨⟨_, _, rfl, h, by rw [ht]; exact hP, va_K.moved hW.alike X.2.2.2.2.2.2.1, hD⟩, hS.F ht⟩) hS.2.2 (dk DX7_see 33 rfl)
      · have h := h.2 hc
        refine lv_bipush (v := (-2)) hx hb (dk DX7_see 17 rfl) (by decide) ?_
        exact W.iret (v := (-2)) hx hb hr (fun t ht hW => ⟨⟨_, _, rfl, h, by rw [ht]; exact hP, va_K.moved hW.alike X.2.2.2.2.2.2.1, hD⟩, hS.F ht⟩) hS.2.2 (dk DX7_see 18 rfl)
  · have h := h.2 hc
    refine lv_aload_n hx hb (dk DX7_see 3 rfl) rfl (lv_at hl 0 rfl) ?_
    refine lv_iconst (v := 0) hx hb (dk DX7_see 4 rfl) (by decide) ?_
    refine pX_17_0 X hP hD hS lk18 (dk DX7_see 5 rfl) (fun S5 eS5 H locs hP hD hS => ?_)
    have h := h S5 eS5
    refine lv_iconst (v := 0) hx hb (dk DX7_see 6 rfl) (by decide) ?_
    exact W.iret (v := 0) hx hb hr (fun t ht hW => ⟨⟨_, _, rfl, h, by rw [ht]; exact hP, va_K.moved hW.alike X.2.2.2.2.2.2.1, hD⟩, hS.F ht⟩) hS.2.2 (dk DX7_see 7 rfl)

def ww_X7_mostSeen_17 : List Cond := .code yX7_mostSeen cX7_mostSeen 3 (some .int) :: (WdX ++ WsX)
theorem q_X7_mostSeen_17 : yX7_mostSeen.cls = RX7 ∧ yX7_mostSeen.cls ≠ "java/lang/invoke/MethodHandle" ∧ yX7_mostSeen.cls ≠ "java/lang/invoke/VarHandle" ∧ (parseMethodDescriptor yX7_mostSeen.desc).map (fun d => d.parameters.length) = some 0 := by decide +kernel
abbrev Hd_X7_mostSeen_17 : Type := (Int32 × Int32)
def B_X7_mostSeen_17 (Post : Int32 → XS → Prop) (K : Hd_X7_mostSeen_17 → XS → Prop) : Hd_X7_mostSeen_17 → XS → Prop
  | (x1, x2), S => (((S.1 544) ≤ x2 → Post x1 S) ∧ (¬ (S.1 544) ≤ x2 → vp_in x2 8 ∧ ∀ v1 : Int32, v1 = (if x1 < ((S.2.1 18) x2.toNatClampNeg) then ((S.2.1 18) x2.toNatClampNeg) else x1) → ∀ v2 : Int32, v2 = x2 + 1 → K (v1, v2) S))
def VC_X7_mostSeen_17 (Post : Int32 → XS → Prop) (S : XS) : Prop := ∀ K : Hd_X7_mostSeen_17 → XS → Prop, (∀ h S, B_X7_mostSeen_17 Post K h S → K h S) → K (0, 0) S
set_option maxHeartbeats 4000000 in
set_option maxRecDepth 100000 in
theorem h_X7_mostSeen_17_0 {p : Program} {l : Launch} {e : Env} {s : State} {m : MethodId} {below : List Frame} {meth : Method} {c : Code} {dC : Nat → ClassId} {dI : Nat → Nat → Nat} {q : Nat → Nat} {cI cT : ClassId} {en : Nat → Nat} {A : Nat → Prop} {args : Array Value} {Post : Int32 → XS → Prop} {K : Hd_X7_mostSeen_17 → XS → Prop} (X : XX p s m args c cX7_mostSeen 3 ww_X7_mostSeen_17 RX7 dC dI cI cT en A) (hr : meth.sig.returnType = (some .int)) (hlocks : meth.locks = false) (hK0 : ∀ (x1 : Int32) (x2 : Int32) (S : XS), K (x1, x2) S → ∀ (H : Heap) (locs : List Loc), va_P (dC, dI) vwCl (wX q cI cT S) H → va_D A (wX q cI cT S) → va_S A s.heap H locs → ∀ ls : Array Slot, lv_has ls 3 [(0, .ref (q 17)), (1, .int x1), (2, .int x2)] → W p l e (headSpec ww_X7_mostSeen_17 ({ frames := 1, cells := 0, slots := 0, locals := 40 } : Room)).room s m args below meth c H locs 0 0 (MQ below (va_Qi Post (atX dC dI q cI cT A) A) args s 0 0 A) (F0 m 4 ls [])) (x1 : Int32) (x2 : Int32) (S : XS) (h : B_X7_mostSeen_17 Post K (x1, x2) S) : ∀ (H : Heap) (locs : List Loc), va_P (dC, dI) vwCl (wX q cI cT S) H → va_D A (wX q cI cT S) → va_S A s.heap H locs → ∀ ls : Array Slot, lv_has ls 3 [(0, .ref (q 17)), (1, .int x1), (2, .int x2)] → W p l e (headSpec ww_X7_mostSeen_17 ({ frames := 1, cells := 0, slots := 0, locals := 40 } : Room)).room s m args below meth c H locs 0 0 (MQ below (va_Qi Post (atX dC dI q cI cT A) A) args s 0 0 A) (F0 m 4 ls []) := by
  have hx := X.1
  have hb := X.2.1
  intro H locs hP hD hS ls hl
  have lk18 := X.2.2.2.2.1 (.fieldLink RX7 18 "BreathOnLoan$Talk" "seenCount" "I") (inX 526 rfl)
  have lk9 := X.2.2.2.2.1 (.fieldLink RX7 9 "BreathOnLoan$Talk" "breathsSeen" "[I") (inX 483 rfl)
  dsimp only [B_X7_mostSeen_17] at h
  refine lv_iload_n hx hb (dk DX7_mostSeen 4 rfl) rfl (lv_at hl 2 rfl) ?_
  refine lv_aload_n hx hb (dk DX7_mostSeen 5 rfl) rfl (lv_at hl 0 rfl) ?_
  refine gX_17 X hP 0 (by decide) rfl lk18 (dk DX7_mostSeen 6 rfl) ?_
  refine lv_icmp_ge (tgt := 29) hx hb (dk DX7_mostSeen 7 rfl) (by decide) (fun hc => ?_) (fun hc => ?_)
  · have h := h.1 hc
    refine lv_iload_n hx hb (dk DX7_mostSeen 17 rfl) rfl (lv_at hl 1 rfl) ?_
    exact W.iret (v := x1) hx hb hr (fun t ht hW => ⟨⟨_, _, rfl, h, by rw [ht]; exact hP, va_K.moved hW.alike X.2.2.2.2.2.2.1, hD⟩, hS.F ht⟩) hS.2.2 (dk DX7_mostSeen 18 rfl)
  · have h := h.2 hc
    refine lv_iload_n hx hb (dk DX7_mostSeen 8 rfl) rfl (lv_at hl 1 rfl) ?_
    refine lv_aload_n hx hb (dk DX7_mostSeen 9 rfl) rfl (lv_at hl 0 rfl) ?_
    refine gX_17 X hP 1 (by decide) rfl lk9 (dk DX7_mostSeen 10 rfl) ?_
    refine lv_iload_n hx hb (dk DX7_mostSeen 11 rfl) rfl (lv_at hl 2 rfl) ?_
    obtain ⟨hin, h⟩ := h
    refine ldX_18 X hP hin (dk DX7_mostSeen 12 rfl) ?_
    refine va_mmax hx hb (X.2.2.1.trans hl.1.symm) X.2.2.2.1 (X.2.2.2.2.1 (.methodLink RX7 26 Lib.Math.max.name) (inX 554 rfl)) (X.2.2.2.2.1 (.static Lib.Math.max.name) (inX 104 rfl)) (X.2.2.2.2.1 (.initialized "java/lang/Math") (inX 21 rfl)) (X.2.2.2.2.1 (.code Lib.Math.max.name Lib.Math.max.code 2 (some .int)) (inX 105 rfl)) (Nat.le_of_ble_eq_true rfl) (Nat.le_of_ble_eq_true rfl) (Nat.zero_le _) (Nat.zero_le _) (dk DX7_mostSeen 13 rfl) ?_
    refine lv_topi (fun v1 ev1 => ?_)
    have h := h v1 ev1
    refine lv_istore_n (lv' := [(1, .int v1), (0, .ref (q 17)), (2, .int x2)]) hx hb (dk DX7_mostSeen 14 rfl) rfl hl (by decide) rfl (fun ls hl => ?_)
    obtain ⟨v2, ev2⟩ : ∃ y : Int32, y = x2 + 1 := ⟨_, rfl⟩
    have h := h v2 ev2
    refine lv_iinc (v := v2) (lv' := [(2, .int v2), (1, .int v1), (0, .ref (q 17))]) hx hb (dk DX7_mostSeen 15 rfl) hl (k := 2) rfl (by rw [ev2]; rfl) (by decide) rfl (fun ls hl => ?_)
    refine lv_goto (tgt := 4) hx hb (dk DX7_mostSeen 16 rfl) (by decide) ?_
    exact hK0 v1 v2 S h _ _ hP hD hS ls (lv_sub hl [2, 1, 0] rfl)
set_option maxHeartbeats 4000000 in
set_option maxRecDepth 100000 in
theorem m_X7_mostSeen_17 {l : Launch} {dC : Nat → ClassId} {dI : Nat → Nat → Nat} {q : Nat → Nat} {cI cT : ClassId} {en : Nat → Nat} {sz : Nat} {Post : Int32 → XS → Prop} (S : XS) (h : VC_X7_mostSeen_17 Post S) : Met l yX7_mostSeen ww_X7_mostSeen_17 ({ frames := 1, cells := 0, slots := 0, locals := 40 } : Room) (va_Pc [.ref (q 17)] (preX dC dI q cI cT en S sz)) (va_Qi Post (atX dC dI q cI cT (va_A (wX q cI cT S) sz)) (va_A (wX q cI cT S) sz)) 0 0 (va_A (wX q cI cT S) sz) := by
  refine oX (cc := cX7_mostSeen) (maxL := 3) (ret := (some .int)) (Qc := fun A => va_Qi Post (atX dC dI q cI cT A) A) (own := RX7) (by decide) rfl (fun w h => List.mem_cons_of_mem _ (List.mem_append_right _ h)) rfl (Nat.le_of_ble_eq_true rfl) (fun p e s m below meth c A ls X hr hlocks hP hD hS hl => ?_)
  have hx := X.1
  have hb := X.2.1
  have hl : lv_has ls 3 [(0, .ref (q 17))] := hl
  have lk18 := X.2.2.2.2.1 (.fieldLink RX7 18 "BreathOnLoan$Talk" "seenCount" "I") (inX 526 rfl)
  have lk9 := X.2.2.2.2.1 (.fieldLink RX7 9 "BreathOnLoan$Talk" "breathsSeen" "[I") (inX 483 rfl)
  generalize hargs : ([.ref (q 17)] : List Value).toArray = args at X ⊢
  have h := h (fun hd S => match hd with | (x1, x2) => ∀ (H : Heap) (locs : List Loc), va_P (dC, dI) vwCl (wX q cI cT S) H → va_D A (wX q cI cT S) → va_S A s.heap H locs → ∀ ls : Array Slot, lv_has ls 3 [(0, .ref (q 17)), (1, .int x1), (2, .int x2)] → W p l e (headSpec ww_X7_mostSeen_17 ({ frames := 1, cells := 0, slots := 0, locals := 40 } : Room)).room s m args below meth c H locs 0 0 (MQ below (va_Qi Post (atX dC dI q cI cT A) A) args s 0 0 A) (F0 m 4 ls [])) ?_
  · skip
    refine lv_iconst (v := 0) hx hb (dk DX7_mostSeen 0 rfl) (by decide) ?_
    refine lv_istore_n (lv' := [(1, .int 0), (0, .ref (q 17))]) hx hb (dk DX7_mostSeen 1 rfl) rfl hl (by decide) rfl (fun ls hl => ?_)
    refine lv_iconst (v := 0) hx hb (dk DX7_mostSeen 2 rfl) (by decide) ?_
    refine lv_istore_n (lv' := [(2, .int 0), (1, .int 0), (0, .ref (q 17))]) hx hb (dk DX7_mostSeen 3 rfl) rfl hl (by decide) rfl (fun ls hl => ?_)
    exact h _ _ hP hD hS ls (lv_sub hl [2, 1, 0] rfl)
  · rintro ⟨x1, x2⟩ S hB
    exact h_X7_mostSeen_17_0 X hr hlocks (hK0 := fun _ _ _ h => h) x1 x2 S hB

def ww_X7_hear_17 : List Cond := .code yX7_hear cX7_hear 5 (some .int) :: (WdX ++ WsX)
theorem q_X7_hear_17 : yX7_hear.cls = RX7 ∧ yX7_hear.cls ≠ "java/lang/invoke/MethodHandle" ∧ yX7_hear.cls ≠ "java/lang/invoke/VarHandle" ∧ (parseMethodDescriptor yX7_hear.desc).map (fun d => d.parameters.length) = some 4 := by decide +kernel
def VC_X7_hear_17 (Post : Int32 → XS → Prop) (a0 : Int32) (a1 : Int32) (a2 : Int32) (a3 : Int32) (S : XS) : Prop := (((S.1 546) < 20 → vp_in (4 * (S.1 546)) 80 ∧ ∀ S1 : XS, S1 = xF S 19 (upd (S.2.1 19) (4 * (S.1 546)).toNatClampNeg a0) → vp_in ((4 * (S1.1 546)) + 1) 80 ∧ ∀ S2 : XS, S2 = xF S1 19 (upd (S1.2.1 19) ((4 * (S1.1 546)) + 1).toNatClampNeg a1) → vp_in ((4 * (S2.1 546)) + 2) 80 ∧ ∀ S3 : XS, S3 = xF S2 19 (upd (S2.2.1 19) ((4 * (S2.1 546)) + 2).toNatClampNeg a2) → vp_in ((4 * (S3.1 546)) + 3) 80 ∧ ∀ S4 : XS, S4 = xF S3 19 (upd (S3.2.1 19) ((4 * (S3.1 546)) + 3).toNatClampNeg a3) → ∀ v5 : Int32, v5 = (S4.1 546) + 1 → ∀ S6 : XS, S6 = xI S4 546 v5 → Post (S6.1 546) S6) ∧ (¬ (S.1 546) < 20 → Post (-1) S))
set_option maxHeartbeats 4000000 in
set_option maxRecDepth 100000 in
theorem m_X7_hear_17 {l : Launch} {dC : Nat → ClassId} {dI : Nat → Nat → Nat} {q : Nat → Nat} {cI cT : ClassId} {en : Nat → Nat} {sz : Nat} {Post : Int32 → XS → Prop} (a0 : Int32) (a1 : Int32) (a2 : Int32) (a3 : Int32) (S : XS) (h : VC_X7_hear_17 Post a0 a1 a2 a3 S) : Met l yX7_hear ww_X7_hear_17 ({ frames := 0, cells := 0, slots := 0, locals := 0 } : Room) (va_Pc [.ref (q 17), .int a0, .int a1, .int a2, .int a3] (preX dC dI q cI cT en S sz)) (va_Qi Post (atX dC dI q cI cT (va_A (wX q cI cT S) sz)) (va_A (wX q cI cT S) sz)) 0 0 (va_A (wX q cI cT S) sz) := by
  refine oX (cc := cX7_hear) (maxL := 5) (ret := (some .int)) (Qc := fun A => va_Qi Post (atX dC dI q cI cT A) A) (own := RX7) (by decide) rfl (fun w h => List.mem_cons_of_mem _ (List.mem_append_right _ h)) rfl (Nat.le_of_ble_eq_true rfl) (fun p e s m below meth c A ls X hr hlocks hP hD hS hl => ?_)
  have hx := X.1
  have hb := X.2.1
  have hl : lv_has ls 5 [(0, .ref (q 17)), (1, .int a0), (2, .int a1), (3, .int a2), (4, .int a3)] := hl
  have lk32 := X.2.2.2.2.1 (.fieldLink RX7 32 "BreathOnLoan$Talk" "toldCount" "I") (inX 527 rfl)
  have lk15 := X.2.2.2.2.1 (.fieldLink RX7 15 "BreathOnLoan$Talk" "told" "[I") (inX 484 rfl)
  dsimp only [VC_X7_hear_17] at h
  refine lv_aload_n hx hb (dk DX7_hear 0 rfl) rfl (lv_at hl 0 rfl) ?_
  refine gX_17 X hP 2 (by decide) rfl lk32 (dk DX7_hear 1 rfl) ?_
  refine lv_bipush (v := 20) hx hb (dk DX7_hear 2 rfl) (by decide) ?_
  refine lv_icmp_lt (tgt := 11) hx hb (dk DX7_hear 3 rfl) (by decide) (fun hc => ?_) (fun hc => ?_)
  · have h := h.1 hc
    refine lv_aload_n hx hb (dk DX7_hear 6 rfl) rfl (lv_at hl 0 rfl) ?_
    refine gX_17 X hP 3 (by decide) rfl lk15 (dk DX7_hear 7 rfl) ?_
    refine lv_iconst (v := 4) hx hb (dk DX7_hear 8 rfl) (by decide) ?_
    refine lv_aload_n hx hb (dk DX7_hear 9 rfl) rfl (lv_at hl 0 rfl) ?_
    refine gX_17 X hP 2 (by decide) rfl lk32 (dk DX7_hear 10 rfl) ?_
    refine lv_imul hx hb (dk DX7_hear 11 rfl) ?_
    refine lv_iload_n hx hb (dk DX7_hear 12 rfl) rfl (lv_at hl 1 rfl) ?_
    obtain ⟨hin, h⟩ := h
    refine stX_19 X hP hD hS hin (dk DX7_hear 13 rfl) (fun S1 eS1 H locs hP hD hS => ?_)
    have h := h S1 eS1
    refine lv_aload_n hx hb (dk DX7_hear 14 rfl) rfl (lv_at hl 0 rfl) ?_
    refine gX_17 X hP 3 (by decide) rfl lk15 (dk DX7_hear 15 rfl) ?_
    refine lv_iconst (v := 4) hx hb (dk DX7_hear 16 rfl) (by decide) ?_
    refine lv_aload_n hx hb (dk DX7_hear 17 rfl) rfl (lv_at hl 0 rfl) ?_
    refine gX_17 X hP 2 (by decide) rfl lk32 (dk DX7_hear 18 rfl) ?_
    refine lv_imul hx hb (dk DX7_hear 19 rfl) ?_
    refine lv_iconst (v := 1) hx hb (dk DX7_hear 20 rfl) (by decide) ?_
    refine lv_iadd hx hb (dk DX7_hear 21 rfl) ?_
    refine lv_iload_n hx hb (dk DX7_hear 22 rfl) rfl (lv_at hl 2 rfl) ?_
    obtain ⟨hin, h⟩ := h
    refine stX_19 X hP hD hS hin (dk DX7_hear 23 rfl) (fun S2 eS2 H locs hP hD hS => ?_)
    have h := h S2 eS2
    refine lv_aload_n hx hb (dk DX7_hear 24 rfl) rfl (lv_at hl 0 rfl) ?_
    refine gX_17 X hP 3 (by decide) rfl lk15 (dk DX7_hear 25 rfl) ?_
    refine lv_iconst (v := 4) hx hb (dk DX7_hear 26 rfl) (by decide) ?_
    refine lv_aload_n hx hb (dk DX7_hear 27 rfl) rfl (lv_at hl 0 rfl) ?_
    refine gX_17 X hP 2 (by decide) rfl lk32 (dk DX7_hear 28 rfl) ?_
    refine lv_imul hx hb (dk DX7_hear 29 rfl) ?_
    refine lv_iconst (v := 2) hx hb (dk DX7_hear 30 rfl) (by decide) ?_
    refine lv_iadd hx hb (dk DX7_hear 31 rfl) ?_
    refine lv_iload_n hx hb (dk DX7_hear 32 rfl) rfl (lv_at hl 3 rfl) ?_
    obtain ⟨hin, h⟩ := h
    refine stX_19 X hP hD hS hin (dk DX7_hear 33 rfl) (fun S3 eS3 H locs hP hD hS => ?_)
    have h := h S3 eS3
    refine lv_aload_n hx hb (dk DX7_hear 34 rfl) rfl (lv_at hl 0 rfl) ?_
    refine gX_17 X hP 3 (by decide) rfl lk15 (dk DX7_hear 35 rfl) ?_
    refine lv_iconst (v := 4) hx hb (dk DX7_hear 36 rfl) (by decide) ?_
    refine lv_aload_n hx hb (dk DX7_hear 37 rfl) rfl (lv_at hl 0 rfl) ?_
    refine gX_17 X hP 2 (by decide) rfl lk32 (dk DX7_hear 38 rfl) ?_
    refine lv_imul hx hb (dk DX7_hear 39 rfl) ?_
    refine lv_iconst (v := 3) hx hb (dk DX7_hear 40 rfl) (by decide) ?_
    refine lv_iadd hx hb (dk DX7_hear 41 rfl) ?_
    refine lv_iload hx hb (dk DX7_hear 42 rfl) (lv_at hl 4 rfl) ?_
    obtain ⟨hin, h⟩ := h
    refine stX_19 X hP hD hS hin (dk DX7_hear 43 rfl) (fun S4 eS4 H locs hP hD hS => ?_)
    have h := h S4 eS4
    refine lv_aload_n hx hb (dk DX7_hear 44 rfl) rfl (lv_at hl 0 rfl) ?_
    refine lv_dup hx hb (dk DX7_hear 45 rfl) rfl ?_
    refine gX_17 X hP 2 (by decide) rfl lk32 (dk DX7_hear 46 rfl) ?_
    refine lv_iconst (v := 1) hx hb (dk DX7_hear 47 rfl) (by decide) ?_
    refine lv_iadd hx hb (dk DX7_hear 48 rfl) ?_
    refine lv_topi (fun v5 ev5 => ?_)
    have h := h v5 ev5
    refine pX_17_2 X hP hD hS lk32 (dk DX7_hear 49 rfl) (fun S6 eS6 H locs hP hD hS => ?_)
    have h := h S6 eS6
    refine lv_aload_n hx hb (dk DX7_hear 50 rfl) rfl (lv_at hl 0 rfl) ?_
    refine gX_17 X hP 2 (by decide) rfl lk32 (dk DX7_hear 51 rfl) ?_
    exact W.iret (v := (S6.1 546)) hx hb hr (fun t ht hW => ⟨⟨_, _, rfl, h, by rw [ht]; exact hP, va_K.moved hW.alike X.2.2.2.2.2.2.1, hD⟩, hS.F ht⟩) hS.2.2 (dk DX7_hear 52 rfl)
  · have h := h.2 hc
    refine lv_iconst (v := (-1)) hx hb (dk DX7_hear 4 rfl) (by decide) ?_
    exact W.iret (v := (-1)) hx hb hr (fun t ht hW => ⟨⟨_, _, rfl, h, by rw [ht]; exact hP, va_K.moved hW.alike X.2.2.2.2.2.2.1, hD⟩, hS.F ht⟩) hS.2.2 (dk DX7_hear 5 rfl)

def ww_X11_sumOfRows_19 : List Cond := .code yX11_sumOfRows cX11_sumOfRows 7 (some .int) :: (WdX ++ WsX)
theorem q_X11_sumOfRows_19 : yX11_sumOfRows.cls ≠ "java/lang/invoke/MethodHandle" ∧ yX11_sumOfRows.cls ≠ "java/lang/invoke/VarHandle" ∧ (parseMethodDescriptor yX11_sumOfRows.desc).map (fun d => d.parameters.length) = some 5 := by decide +kernel
abbrev Hd_X11_sumOfRows_19 : Type := (Int32 × Int32 × Int32 × Int32 × Int32 × Int32) ⊕ (Int32 × Int32 × Int32 × Int32 × Int32 × Int32) ⊕ (Int32 × Int32 × Int32 × Int32 × Int32 × Int32) ⊕ (Int32 × Int32 × Int32 × Int32 × Int32 × Int32)
def B_X11_sumOfRows_19 (Post : Int32 → XS → Prop) (K : Hd_X11_sumOfRows_19 → XS → Prop) : Hd_X11_sumOfRows_19 → XS → Prop
  | (.inl (x1, x2, x3, x4, x5, x6)), S => ((x1 ≤ x6 → Post x5 S) ∧ (¬ x1 ≤ x6 → ((80 ≤ ((4 * x6) + 3) → Post x5 S) ∧ (¬ 80 ≤ ((4 * x6) + 3) → ((x2 = (-1) → K (.inr (.inl (x1, x2, x3, x4, x5, x6))) S) ∧ (¬ x2 = (-1) → vp_in (4 * x6) 80 ∧ ((¬ ((S.2.1 19) (4 * x6).toNatClampNeg) = x2 → ∀ v1 : Int32, v1 = x6 + 1 → K (.inl (x1, x2, x3, x4, x5, v1)) S) ∧ (((S.2.1 19) (4 * x6).toNatClampNeg) = x2 → K (.inr (.inl (x1, x2, x3, x4, x5, x6))) S))))))))
  | (.inr (.inl (x1, x2, x3, x4, x5, x6))), S => ((x3 = (-1) → K (.inr (.inr (.inl (x1, x2, x3, x4, x5, x6)))) S) ∧ (¬ x3 = (-1) → vp_in ((4 * x6) + 1) 80 ∧ ((¬ ((S.2.1 19) ((4 * x6) + 1).toNatClampNeg) = x3 → ∀ v2 : Int32, v2 = x6 + 1 → K (.inl (x1, x2, x3, x4, x5, v2)) S) ∧ (((S.2.1 19) ((4 * x6) + 1).toNatClampNeg) = x3 → K (.inr (.inr (.inl (x1, x2, x3, x4, x5, x6)))) S))))
  | (.inr (.inr (.inl (x1, x2, x3, x4, x5, x6)))), S => ((x4 = (-1) → K (.inr (.inr (.inr (x1, x2, x3, x4, x5, x6)))) S) ∧ (¬ x4 = (-1) → vp_in ((4 * x6) + 3) 80 ∧ ((¬ ((S.2.1 19) ((4 * x6) + 3).toNatClampNeg) = x4 → ∀ v3 : Int32, v3 = x6 + 1 → K (.inl (x1, x2, x3, x4, x5, v3)) S) ∧ (((S.2.1 19) ((4 * x6) + 3).toNatClampNeg) = x4 → K (.inr (.inr (.inr (x1, x2, x3, x4, x5, x6)))) S))))
  | (.inr (.inr (.inr (x1, x2, x3, x4, x5, x6)))), S => vp_in ((4 * x6) + 2) 80 ∧ ∀ v4 : Int32, v4 = x5 + ((S.2.1 19) ((4 * x6) + 2).toNatClampNeg) → ∀ v5 : Int32, v5 = x6 + 1 → K (.inl (x1, x2, x3, x4, v4, v5)) S
def VC_X11_sumOfRows_19 (Post : Int32 → XS → Prop) (a1 : Int32) (a2 : Int32) (a3 : Int32) (a4 : Int32) (S : XS) : Prop := ∀ K : Hd_X11_sumOfRows_19 → XS → Prop, (∀ h S, B_X11_sumOfRows_19 Post K h S → K h S) → K (.inl (a1, a2, a3, a4, 0, 0)) S
set_option maxHeartbeats 4000000 in
set_option maxRecDepth 100000 in
theorem h_X11_sumOfRows_19_0 {p : Program} {l : Launch} {e : Env} {s : State} {m : MethodId} {below : List Frame} {meth : Method} {c : Code} {dC : Nat → ClassId} {dI : Nat → Nat → Nat} {q : Nat → Nat} {cI cT : ClassId} {en : Nat → Nat} {A : Nat → Prop} {args : Array Value} {Post : Int32 → XS → Prop} {K : Hd_X11_sumOfRows_19 → XS → Prop} (X : XX p s m args c cX11_sumOfRows 7 ww_X11_sumOfRows_19 RX11 dC dI cI cT en A) (hr : meth.sig.returnType = (some .int)) (hlocks : meth.locks = false) (hK0 : ∀ (x1 : Int32) (x2 : Int32) (x3 : Int32) (x4 : Int32) (x5 : Int32) (x6 : Int32) (S : XS), K (.inl (x1, x2, x3, x4, x5, x6)) S → ∀ (H : Heap) (locs : List Loc), va_P (dC, dI) vwCl (wX q cI cT S) H → va_D A (wX q cI cT S) → va_S A s.heap H locs → ∀ ls : Array Slot, lv_has ls 7 [(0, .ref (q 19)), (1, .int x1), (2, .int x2), (3, .int x3), (4, .int x4), (5, .int x5), (6, .int x6)] → W p l e (headSpec ww_X11_sumOfRows_19 ({ frames := 0, cells := 0, slots := 0, locals := 0 } : Room)).room s m args below meth c H locs 0 0 (MQ below (va_Qi Post (atX dC dI q cI cT A) A) args s 0 0 A) (F0 m 6 ls [])) (hK1 : ∀ (x1 : Int32) (x2 : Int32) (x3 : Int32) (x4 : Int32) (x5 : Int32) (x6 : Int32) (S : XS), K (.inr (.inl (x1, x2, x3, x4, x5, x6))) S → ∀ (H : Heap) (locs : List Loc), va_P (dC, dI) vwCl (wX q cI cT S) H → va_D A (wX q cI cT S) → va_S A s.heap H locs → ∀ ls : Array Slot, lv_has ls 7 [(0, .ref (q 19)), (1, .int x1), (2, .int x2), (3, .int x3), (4, .int x4), (5, .int x5), (6, .int x6)] → W p l e (headSpec ww_X11_sumOfRows_19 ({ frames := 0, cells := 0, slots := 0, locals := 0 } : Room)).room s m args below meth c H locs 0 0 (MQ below (va_Qi Post (atX dC dI q cI cT A) A) args s 0 0 A) (F0 m 38 ls [])) (hK2 : ∀ (x1 : Int32) (x2 : Int32) (x3 : Int32) (x4 : Int32) (x5 : Int32) (x6 : Int32) (S : XS), K (.inr (.inr (.inl (x1, x2, x3, x4, x5, x6)))) S → ∀ (H : Heap) (locs : List Loc), va_P (dC, dI) vwCl (wX q cI cT S) H → va_D A (wX q cI cT S) → va_S A s.heap H locs → ∀ ls : Array Slot, lv_has ls 7 [(0, .ref (q 19)), (1, .int x1), (2, .int x2), (3, .int x3), (4, .int x4), (5, .int x5), (6, .int x6)] → W p l e (headSpec ww_X11_sumOfRows_19 ({ frames := 0, cells := 0, slots := 0, locals := 0 } : Room)).room s m args below meth c H locs 0 0 (MQ below (va_Qi Post (atX dC dI q cI cT A) A) args s 0 0 A) (F0 m 55 ls [])) (hK3 : ∀ (x1 : Int32) (x2 : Int32) (x3 : Int32) (x4 : Int32) (x5 : Int32) (x6 : Int32) (S : XS), K (.inr (.inr (.inr (x1, x2, x3, x4, x5, x6)))) S → ∀ (H : Heap) (locs : List Loc), va_P (dC, dI) vwCl (wX q cI cT S) H → va_D A (wX q cI cT S) → va_S A s.heap H locs → ∀ ls : Array Slot, lv_has ls 7 [(0, .ref (q 19)), (1, .int x1), (2, .int x2), (3, .int x3), (4, .int x4), (5, .int x5), (6, .int x6)] → W p l e (headSpec ww_X11_sumOfRows_19 ({ frames := 0, cells := 0, slots := 0, locals := 0 } : Room)).room s m args below meth c H locs 0 0 (MQ below (va_Qi Post (atX dC dI q cI cT A) A) args s 0 0 A) (F0 m 74 ls [])) (x1 : Int32) (x2 : Int32) (x3 : Int32) (x4 : Int32) (x5 : Int32) (x6 : Int32) (S : XS) (h : B_X11_sumOfRows_19 Post K (.inl (x1, x2, x3, x4, x5, x6)) S) : ∀ (H : Heap) (locs : List Loc), va_P (dC, dI) vwCl (wX q cI cT S) H → va_D A (wX q cI cT S) → va_S A s.heap H locs → ∀ ls : Array Slot, lv_has ls 7 [(0, .ref (q 19)), (1, .int x1), (2, .int x2), (3, .int x3), (4, .int x4), (5, .int x5), (6, .int x6)] → W p l e (headSpec ww_X11_sumOfRows_19 ({ frames := 0, cells := 0, slots := 0, locals := 0 } : Room)).room s m args below meth c H locs 0 0 (MQ below (va_Qi Post (atX dC dI q cI cT A) A) args s 0 0 A) (F0 m 6 ls []) := by
  have hx := X.1
  have hb := X.2.1
  intro H locs hP hD hS ls hl
  dsimp only [B_X11_sumOfRows_19] at h
  refine lv_iload hx hb (dk DX11_sumOfRows 4 rfl) (lv_at hl 6 rfl) ?_
  refine lv_iload_n hx hb (dk DX11_sumOfRows 5 rfl) rfl (lv_at hl 1 rfl) ?_
  refine lv_icmp_ge (tgt := 93) hx hb (dk DX11_sumOfRows 6 rfl) (by decide) (fun hc => ?_) (fun hc => ?_)
  · have h := h.1 hc
    refine lv_iload hx hb (dk DX11_sumOfRows 61 rfl) (lv_at hl 5 rfl) ?_
    exact W.iret (v := x5) hx hb hr (fun t ht hW => ⟨⟨_, _, rfl, h, by rw [ht]; exact hP, va_K.moved hW.alike X.2.2.2.2.2.2.1, hD⟩, hS.F ht⟩) hS.2.2 (dk DX11_sumOfRows 62 rfl)
  · have h := h.2 hc
    refine lv_iconst (v := 4) hx hb (dk DX11_sumOfRows 7 rfl) (by decide) ?_
    refine lv_iload hx hb (dk DX11_sumOfRows 8 rfl) (lv_at hl 6 rfl) ?_
    refine lv_imul hx hb (dk DX11_sumOfRows 9 rfl) ?_
    refine lv_iconst (v := 3) hx hb (dk DX11_sumOfRows 10 rfl) (by decide) ?_
    refine lv_iadd hx hb (dk DX11_sumOfRows 11 rfl) ?_
    refine lv_aload_n hx hb (dk DX11_sumOfRows 12 rfl) rfl (lv_at hl 0 rfl) ?_
    refine alX_19 X hP (dk DX11_sumOfRows 13 rfl) ?_
    refine lv_icmp_ge (tgt := 93) hx hb (dk DX11_sumOfRows 14 rfl) (by decide) (fun hc => ?_) (fun hc => ?_)
    · have h := h.1 hc
      refine lv_iload hx hb (dk DX11_sumOfRows 61 rfl) (lv_at hl 5 rfl) ?_
      exact W.iret (v := x5) hx hb hr (fun t ht hW => ⟨⟨_, _, rfl, h, by rw [ht]; exact hP, va_K.moved hW.alike X.2.2.2.2.2.2.1, hD⟩, hS.F ht⟩) hS.2.2 (dk DX11_sumOfRows 62 rfl)
    · have h := h.2 hc
      refine lv_iload_n hx hb (dk DX11_sumOfRows 15 rfl) rfl (lv_at hl 2 rfl) ?_
      refine lv_iconst (v := (-1)) hx hb (dk DX11_sumOfRows 16 rfl) (by decide) ?_
      refine lv_icmp_eq (tgt := 38) hx hb (dk DX11_sumOfRows 17 rfl) (by decide) (fun hc => ?_) (fun hc => ?_)
      · have h := h.1 hc
        exact hK1 x1 x2 x3 x4 x5 x6 S h _ _ hP hD hS ls (lv_sub hl [0, 1, 2, 3, 4, 5, 6] rfl)
      · have h := h.2 hc
        refine lv_aload_n hx hb (dk DX11_sumOfRows 18 rfl) rfl (lv_at hl 0 rfl) ?_
        refine lv_iconst (v := 4) hx hb (dk DX11_sumOfRows 19 rfl) (by decide) ?_
        refine lv_iload hx hb (dk DX11_sumOfRows 20 rfl) (lv_at hl 6 rfl) ?_
        refine lv_imul hx hb (dk DX11_sumOfRows 21 rfl) ?_
        obtain ⟨hin, h⟩ := h
        refine ldX_19 X hP hin (dk DX11_sumOfRows 22 rfl) ?_
        refine lv_iload_n hx hb (dk DX11_sumOfRows 23 rfl) rfl (lv_at hl 2 rfl) ?_
        refine lv_icmp_ne (tgt := 87) hx hb (dk DX11_sumOfRows 24 rfl) (by decide) (fun hc => ?_) (fun hc => ?_)
        · have h := h.1 hc
          obtain ⟨v1, ev1⟩ : ∃ y : Int32, y = x6 + 1 := ⟨_, rfl⟩
          have h := h v1 ev1
          refine lv_iinc (v := v1) (lv' := [(6, .int v1), (0, .ref (q 19)), (1, .int x1), (2, .int x2), (3, .int x3), (4, .int x4), (5, .int x5)]) hx hb (dk DX11_sumOfRows 59 rfl) hl (k := 6) rfl (by rw [ev1]; rfl) (by decide) rfl (fun ls hl => ?_)
          refine lv_goto (tgt := 6) hx hb (dk DX11_sumOfRows 60 rfl) (by decide) ?_
          exact hK0 x1 x2 x3 x4 x5 v1 S h _ _ hP hD hS ls (lv_sub hl [1, 2, 3, 4, 5, 6, 0] rfl)
        · have h := h.2 hc
          exact hK1 x1 x2 x3 x4 x5 x6 S h _ _ hP hD hS ls (lv_sub hl [0, 1, 2, 3, 4, 5, 6] rfl)
set_option maxHeartbeats 4000000 in
set_option maxRecDepth 100000 in
theorem h_X11_sumOfRows_19_1 {p : Program} {l : Launch} {e : Env} {s : State} {m : MethodId} {below : List Frame} {meth : Method} {c : Code} {dC : Nat → ClassId} {dI : Nat → Nat → Nat} {q : Nat → Nat} {cI cT : ClassId} {en : Nat → Nat} {A : Nat → Prop} {args : Array Value} {Post : Int32 → XS → Prop} {K : Hd_X11_sumOfRows_19 → XS → Prop} (X : XX p s m args c cX11_sumOfRows 7 ww_X11_sumOfRows_19 RX11 dC dI cI cT en A) (hr : meth.sig.returnType = (some .int)) (hlocks : meth.locks = false) (hK0 : ∀ (x1 : Int32) (x2 : Int32) (x3 : Int32) (x4 : Int32) (x5 : Int32) (x6 : Int32) (S : XS), K (.inl (x1, x2, x3, x4, x5, x6)) S → ∀ (H : Heap) (locs : List Loc), va_P (dC, dI) vwCl (wX q cI cT S) H → va_D A (wX q cI cT S) → va_S A s.heap H locs → ∀ ls : Array Slot, lv_has ls 7 [(0, .ref (q 19)), (1, .int x1), (2, .int x2), (3, .int x3), (4, .int x4), (5, .int x5), (6, .int x6)] → W p l e (headSpec ww_X11_sumOfRows_19 ({ frames := 0, cells := 0, slots := 0, locals := 0 } : Room)).room s m args below meth c H locs 0 0 (MQ below (va_Qi Post (atX dC dI q cI cT A) A) args s 0 0 A) (F0 m 6 ls [])) (hK1 : ∀ (x1 : Int32) (x2 : Int32) (x3 : Int32) (x4 : Int32) (x5 : Int32) (x6 : Int32) (S : XS), K (.inr (.inl (x1, x2, x3, x4, x5, x6))) S → ∀ (H : Heap) (locs : List Loc), va_P (dC, dI) vwCl (wX q cI cT S) H → va_D A (wX q cI cT S) → va_S A s.heap H locs → ∀ ls : Array Slot, lv_has ls 7 [(0, .ref (q 19)), (1, .int x1), (2, .int x2), (3, .int x3), (4, .int x4), (5, .int x5), (6, .int x6)] → W p l e (headSpec ww_X11_sumOfRows_19 ({ frames := 0, cells := 0, slots := 0, locals := 0 } : Room)).room s m args below meth c H locs 0 0 (MQ below (va_Qi Post (atX dC dI q cI cT A) A) args s 0 0 A) (F0 m 38 ls [])) (hK2 : ∀ (x1 : Int32) (x2 : Int32) (x3 : Int32) (x4 : Int32) (x5 : Int32) (x6 : Int32) (S : XS), K (.inr (.inr (.inl (x1, x2, x3, x4, x5, x6)))) S → ∀ (H : Heap) (locs : List Loc), va_P (dC, dI) vwCl (wX q cI cT S) H → va_D A (wX q cI cT S) → va_S A s.heap H locs → ∀ ls : Array Slot, lv_has ls 7 [(0, .ref (q 19)), (1, .int x1), (2, .int x2), (3, .int x3), (4, .int x4), (5, .int x5), (6, .int x6)] → W p l e (headSpec ww_X11_sumOfRows_19 ({ frames := 0, cells := 0, slots := 0, locals := 0 } : Room)).room s m args below meth c H locs 0 0 (MQ below (va_Qi Post (atX dC dI q cI cT A) A) args s 0 0 A) (F0 m 55 ls [])) (hK3 : ∀ (x1 : Int32) (x2 : Int32) (x3 : Int32) (x4 : Int32) (x5 : Int32) (x6 : Int32) (S : XS), K (.inr (.inr (.inr (x1, x2, x3, x4, x5, x6)))) S → ∀ (H : Heap) (locs : List Loc), va_P (dC, dI) vwCl (wX q cI cT S) H → va_D A (wX q cI cT S) → va_S A s.heap H locs → ∀ ls : Array Slot, lv_has ls 7 [(0, .ref (q 19)), (1, .int x1), (2, .int x2), (3, .int x3), (4, .int x4), (5, .int x5), (6, .int x6)] → W p l e (headSpec ww_X11_sumOfRows_19 ({ frames := 0, cells := 0, slots := 0, locals := 0 } : Room)).room s m args below meth c H locs 0 0 (MQ below (va_Qi Post (atX dC dI q cI cT A) A) args s 0 0 A) (F0 m 74 ls [])) (x1 : Int32) (x2 : Int32) (x3 : Int32) (x4 : Int32) (x5 : Int32) (x6 : Int32) (S : XS) (h : B_X11_sumOfRows_19 Post K (.inr (.inl (x1, x2, x3, x4, x5, x6))) S) : ∀ (H : Heap) (locs : List Loc), va_P (dC, dI) vwCl (wX q cI cT S) H → va_D A (wX q cI cT S) → va_S A s.heap H locs → ∀ ls : Array Slot, lv_has ls 7 [(0, .ref (q 19)), (1, .int x1), (2, .int x2), (3, .int x3), (4, .int x4), (5, .int x5), (6, .int x6)] → W p l e (headSpec ww_X11_sumOfRows_19 ({ frames := 0, cells := 0, slots := 0, locals := 0 } : Room)).room s m args below meth c H locs 0 0 (MQ below (va_Qi Post (atX dC dI q cI cT A) A) args s 0 0 A) (F0 m 38 ls []) := by
  have hx := X.1
  have hb := X.2.1
  intro H locs hP hD hS ls hl
  dsimp only [B_X11_sumOfRows_19] at h
  refine lv_iload_n hx hb (dk DX11_sumOfRows 25 rfl) rfl (lv_at hl 3 rfl) ?_
  refine lv_iconst (v := (-1)) hx hb (dk DX11_sumOfRows 26 rfl) (by decide) ?_
  refine lv_icmp_eq (tgt := 55) hx hb (dk DX11_sumOfRows 27 rfl) (by decide) (fun hc => ?_) (fun hc => ?_)
  · have h := h.1 hc
    exact hK2 x1 x2 x3 x4 x5 x6 S h _ _ hP hD hS ls (lv_sub hl [0, 1, 2, 3, 4, 5, 6] rfl)
  · have h := h.2 hc
    refine lv_aload_n hx hb (dk DX11_sumOfRows 28 rfl) rfl (lv_at hl 0 rfl) ?_
    refine lv_iconst (v := 4) hx hb (dk DX11_sumOfRows 29 rfl) (by decide) ?_
    refine lv_iload hx hb (dk DX11_sumOfRows 30 rfl) (lv_at hl 6 rfl) ?_
    refine lv_imul hx hb (dk DX11_sumOfRows 31 rfl) ?_
    refine lv_iconst (v := 1) hx hb (dk DX11_sumOfRows 32 rfl) (by decide) ?_
    refine lv_iadd hx hb (dk DX11_sumOfRows 33 rfl) ?_
    obtain ⟨hin, h⟩ := h
    refine ldX_19 X hP hin (dk DX11_sumOfRows 34 rfl) ?_
    refine lv_iload_n hx hb (dk DX11_sumOfRows 35 rfl) rfl (lv_at hl 3 rfl) ?_
    refine lv_icmp_ne (tgt := 87) hx hb (dk DX11_sumOfRows 36 rfl) (by decide) (fun hc => ?_) (fun hc => ?_)
    · have h := h.1 hc
      obtain ⟨v2, ev2⟩ : ∃ y : Int32, y = x6 + 1 := ⟨_, rfl⟩
      have h := h v2 ev2
      refine lv_iinc (v := v2) (lv' := [(6, .int v2), (0, .ref (q 19)), (1, .int x1), (2, .int x2), (3, .int x3), (4, .int x4), (5, .int x5)]) hx hb (dk DX11_sumOfRows 59 rfl) hl (k := 6) rfl (by rw [ev2]; rfl) (by decide) rfl (fun ls hl => ?_)
      refine lv_goto (tgt := 6) hx hb (dk DX11_sumOfRows 60 rfl) (by decide) ?_
      exact hK0 x1 x2 x3 x4 x5 v2 S h _ _ hP hD hS ls (lv_sub hl [1, 2, 3, 4, 5, 6, 0] rfl)
    · have h := h.2 hc
      exact hK2 x1 x2 x3 x4 x5 x6 S h _ _ hP hD hS ls (lv_sub hl [0, 1, 2, 3, 4, 5, 6] rfl)
set_option maxHeartbeats 4000000 in
set_option maxRecDepth 100000 in
theorem h_X11_sumOfRows_19_2 {p : Program} {l : Launch} {e : Env} {s : State} {m : MethodId} {below : List Frame} {meth : Method} {c : Code} {dC : Nat → ClassId} {dI : Nat → Nat → Nat} {q : Nat → Nat} {cI cT : ClassId} {en : Nat → Nat} {A : Nat → Prop} {args : Array Value} {Post : Int32 → XS → Prop} {K : Hd_X11_sumOfRows_19 → XS → Prop} (X : XX p s m args c cX11_sumOfRows 7 ww_X11_sumOfRows_19 RX11 dC dI cI cT en A) (hr : meth.sig.returnType = (some .int)) (hlocks : meth.locks = false) (hK0 : ∀ (x1 : Int32) (x2 : Int32) (x3 : Int32) (x4 : Int32) (x5 : Int32) (x6 : Int32) (S : XS), K (.inl (x1, x2, x3, x4, x5, x6)) S → ∀ (H : Heap) (locs : List Loc), va_P (dC, dI) vwCl (wX q cI cT S) H → va_D A (wX q cI cT S) → va_S A s.heap H locs → ∀ ls : Array Slot, lv_has ls 7 [(0, .ref (q 19)), (1, .int x1), (2, .int x2), (3, .int x3), (4, .int x4), (5, .int x5), (6, .int x6)] → W p l e (headSpec ww_X11_sumOfRows_19 ({ frames := 0, cells := 0, slots := 0, locals := 0 } : Room)).room s m args below meth c H locs 0 0 (MQ below (va_Qi Post (atX dC dI q cI cT A) A) args s 0 0 A) (F0 m 6 ls [])) (hK1 : ∀ (x1 : Int32) (x2 : Int32) (x3 : Int32) (x4 : Int32) (x5 : Int32) (x6 : Int32) (S : XS), K (.inr (.inl (x1, x2, x3, x4, x5, x6))) S → ∀ (H : Heap) (locs : List Loc), va_P (dC, dI) vwCl (wX q cI cT S) H → va_D A (wX q cI cT S) → va_S A s.heap H locs → ∀ ls : Array Slot, lv_has ls 7 [(0, .ref (q 19)), (1, .int x1), (2, .int x2), (3, .int x3), (4, .int x4), (5, .int x5), (6, .int x6)] → W p l e (headSpec ww_X11_sumOfRows_19 ({ frames := 0, cells := 0, slots := 0, locals := 0 } : Room)).room s m args below meth c H locs 0 0 (MQ below (va_Qi Post (atX dC dI q cI cT A) A) args s 0 0 A) (F0 m 38 ls [])) (hK2 : ∀ (x1 : Int32) (x2 : Int32) (x3 : Int32) (x4 : Int32) (x5 : Int32) (x6 : Int32) (S : XS), K (.inr (.inr (.inl (x1, x2, x3, x4, x5, x6)))) S → ∀ (H : Heap) (locs : List Loc), va_P (dC, dI) vwCl (wX q cI cT S) H → va_D A (wX q cI cT S) → va_S A s.heap H locs → ∀ ls : Array Slot, lv_has ls 7 [(0, .ref (q 19)), (1, .int x1), (2, .int x2), (3, .int x3), (4, .int x4), (5, .int x5), (6, .int x6)] → W p l e (headSpec ww_X11_sumOfRows_19 ({ frames := 0, cells := 0, slots := 0, locals := 0 } : Room)).room s m args below meth c H locs 0 0 (MQ below (va_Qi Post (atX dC dI q cI cT A) A) args s 0 0 A) (F0 m 55 ls [])) (hK3 : ∀ (x1 : Int32) (x2 : Int32) (x3 : Int32) (x4 : Int32) (x5 : Int32) (x6 : Int32) (S : XS), K (.inr (.inr (.inr (x1, x2, x3, x4, x5, x6)))) S → ∀ (H : Heap) (locs : List Loc), va_P (dC, dI) vwCl (wX q cI cT S) H → va_D A (wX q cI cT S) → va_S A s.heap H locs → ∀ ls : Array Slot, lv_has ls 7 [(0, .ref (q 19)), (1, .int x1), (2, .int x2), (3, .int x3), (4, .int x4), (5, .int x5), (6, .int x6)] → W p l e (headSpec ww_X11_sumOfRows_19 ({ frames := 0, cells := 0, slots := 0, locals := 0 } : Room)).room s m args below meth c H locs 0 0 (MQ below (va_Qi Post (atX dC dI q cI cT A) A) args s 0 0 A) (F0 m 74 ls [])) (x1 : Int32) (x2 : Int32) (x3 : Int32) (x4 : Int32) (x5 : Int32) (x6 : Int32) (S : XS) (h : B_X11_sumOfRows_19 Post K (.inr (.inr (.inl (x1, x2, x3, x4, x5, x6)))) S) : ∀ (H : Heap) (locs : List Loc), va_P (dC, dI) vwCl (wX q cI cT S) H → va_D A (wX q cI cT S) → va_S A s.heap H locs → ∀ ls : Array Slot, lv_has ls 7 [(0, .ref (q 19)), (1, .int x1), (2, .int x2), (3, .int x3), (4, .int x4), (5, .int x5), (6, .int x6)] → W p l e (headSpec ww_X11_sumOfRows_19 ({ frames := 0, cells := 0, slots := 0, locals := 0 } : Room)).room s m args below meth c H locs 0 0 (MQ below (va_Qi Post (atX dC dI q cI cT A) A) args s 0 0 A) (F0 m 55 ls []) := by
  have hx := X.1
  have hb := X.2.1
  intro H locs hP hD hS ls hl
  dsimp only [B_X11_sumOfRows_19] at h
  refine lv_iload hx hb (dk DX11_sumOfRows 37 rfl) (lv_at hl 4 rfl) ?_
  refine lv_iconst (v := (-1)) hx hb (dk DX11_sumOfRows 38 rfl) (by decide) ?_
  refine lv_icmp_eq (tgt := 74) hx hb (dk DX11_sumOfRows 39 rfl) (by decide) (fun hc => ?_) (fun hc => ?_)
  · have h := h.1 hc
    exact hK3 x1 x2 x3 x4 x5 x6 S h _ _ hP hD hS ls (lv_sub hl [0, 1, 2, 3, 4, 5, 6] rfl)
  · have h := h.2 hc
    refine lv_aload_n hx hb (dk DX11_sumOfRows 40 rfl) rfl (lv_at hl 0 rfl) ?_
    refine lv_iconst (v := 4) hx hb (dk DX11_sumOfRows 41 rfl) (by decide) ?_
    refine lv_iload hx hb (dk DX11_sumOfRows 42 rfl) (lv_at hl 6 rfl) ?_
    refine lv_imul hx hb (dk DX11_sumOfRows 43 rfl) ?_
    refine lv_iconst (v := 3) hx hb (dk DX11_sumOfRows 44 rfl) (by decide) ?_
    refine lv_iadd hx hb (dk DX11_sumOfRows 45 rfl) ?_
    obtain ⟨hin, h⟩ := h
    refine ldX_19 X hP hin (dk DX11_sumOfRows 46 rfl) ?_
    refine lv_iload hx hb (dk DX11_sumOfRows 47 rfl) (lv_at hl 4 rfl) ?_
    refine lv_icmp_ne (tgt := 87) hx hb (dk DX11_sumOfRows 48 rfl) (by decide) (fun hc => ?_) (fun hc => ?_)
    · have h := h.1 hc
      obtain ⟨v3, ev3⟩ : ∃ y : Int32, y = x6 + 1 := ⟨_, rfl⟩
      have h := h v3 ev3
      refine lv_iinc (v := v3) (lv' := [(6, .int v3), (0, .ref (q 19)), (1, .int x1), (2, .int x2), (3, .int x3), (4, .int x4), (5, .int x5)]) hx hb (dk DX11_sumOfRows 59 rfl) hl (k := 6) rfl (by rw [ev3]; rfl) (by decide) rfl (fun ls hl => ?_)
      refine lv_goto (tgt := 6) hx hb (dk DX11_sumOfRows 60 rfl) (by decide) ?_
      exact hK0 x1 x2 x3 x4 x5 v3 S h _ _ hP hD hS ls (lv_sub hl [1, 2, 3, 4, 5, 6, 0] rfl)
    · have h := h.2 hc
      exact hK3 x1 x2 x3 x4 x5 x6 S h _ _ hP hD hS ls (lv_sub hl [0, 1, 2, 3, 4, 5, 6] rfl)
set_option maxHeartbeats 4000000 in
set_option maxRecDepth 100000 in
theorem h_X11_sumOfRows_19_3 {p : Program} {l : Launch} {e : Env} {s : State} {m : MethodId} {below : List Frame} {meth : Method} {c : Code} {dC : Nat → ClassId} {dI : Nat → Nat → Nat} {q : Nat → Nat} {cI cT : ClassId} {en : Nat → Nat} {A : Nat → Prop} {args : Array Value} {Post : Int32 → XS → Prop} {K : Hd_X11_sumOfRows_19 → XS → Prop} (X : XX p s m args c cX11_sumOfRows 7 ww_X11_sumOfRows_19 RX11 dC dI cI cT en A) (hr : meth.sig.returnType = (some .int)) (hlocks : meth.locks = false) (hK0 : ∀ (x1 : Int32) (x2 : Int32) (x3 : Int32) (x4 : Int32) (x5 : Int32) (x6 : Int32) (S : XS), K (.inl (x1, x2, x3, x4, x5, x6)) S → ∀ (H : Heap) (locs : List Loc), va_P (dC, dI) vwCl (wX q cI cT S) H → va_D A (wX q cI cT S) → va_S A s.heap H locs → ∀ ls : Array Slot, lv_has ls 7 [(0, .ref (q 19)), (1, .int x1), (2, .int x2), (3, .int x3), (4, .int x4), (5, .int x5), (6, .int x6)] → W p l e (headSpec ww_X11_sumOfRows_19 ({ frames := 0, cells := 0, slots := 0, locals := 0 } : Room)).room s m args below meth c H locs 0 0 (MQ below (va_Qi Post (atX dC dI q cI cT A) A) args s 0 0 A) (F0 m 6 ls [])) (hK1 : ∀ (x1 : Int32) (x2 : Int32) (x3 : Int32) (x4 : Int32) (x5 : Int32) (x6 : Int32) (S : XS), K (.inr (.inl (x1, x2, x3, x4, x5, x6))) S → ∀ (H : Heap) (locs : List Loc), va_P (dC, dI) vwCl (wX q cI cT S) H → va_D A (wX q cI cT S) → va_S A s.heap H locs → ∀ ls : Array Slot, lv_has ls 7 [(0, .ref (q 19)), (1, .int x1), (2, .int x2), (3, .int x3), (4, .int x4), (5, .int x5), (6, .int x6)] → W p l e (headSpec ww_X11_sumOfRows_19 ({ frames := 0, cells := 0, slots := 0, locals := 0 } : Room)).room s m args below meth c H locs 0 0 (MQ below (va_Qi Post (atX dC dI q cI cT A) A) args s 0 0 A) (F0 m 38 ls [])) (hK2 : ∀ (x1 : Int32) (x2 : Int32) (x3 : Int32) (x4 : Int32) (x5 : Int32) (x6 : Int32) (S : XS), K (.inr (.inr (.inl (x1, x2, x3, x4, x5, x6)))) S → ∀ (H : Heap) (locs : List Loc), va_P (dC, dI) vwCl (wX q cI cT S) H → va_D A (wX q cI cT S) → va_S A s.heap H locs → ∀ ls : Array Slot, lv_has ls 7 [(0, .ref (q 19)), (1, .int x1), (2, .int x2), (3, .int x3), (4, .int x4), (5, .int x5), (6, .int x6)] → W p l e (headSpec ww_X11_sumOfRows_19 ({ frames := 0, cells := 0, slots := 0, locals := 0 } : Room)).room s m args below meth c H locs 0 0 (MQ below (va_Qi Post (atX dC dI q cI cT A) A) args s 0 0 A) (F0 m 55 ls [])) (hK3 : ∀ (x1 : Int32) (x2 : Int32) (x3 : Int32) (x4 : Int32) (x5 : Int32) (x6 : Int32) (S : XS), K (.inr (.inr (.inr (x1, x2, x3, x4, x5, x6)))) S → ∀ (H : Heap) (locs : List Loc), va_P (dC, dI) vwCl (wX q cI cT S) H → va_D A (wX q cI cT S) → va_S A s.heap H locs → ∀ ls : Array Slot, lv_has ls 7 [(0, .ref (q 19)), (1, .int x1), (2, .int x2), (3, .int x3), (4, .int x4), (5, .int x5), (6, .int x6)] → W p l e (headSpec ww_X11_sumOfRows_19 ({ frames := 0, cells := 0, slots := 0, locals := 0 } : Room)).room s m args below meth c H locs 0 0 (MQ below (va_Qi Post (atX dC dI q cI cT A) A) args s 0 0 A) (F0 m 74 ls [])) (x1 : Int32) (x2 : Int32) (x3 : Int32) (x4 : Int32) (x5 : Int32) (x6 : Int32) (S : XS) (h : B_X11_sumOfRows_19 Post K (.inr (.inr (.inr (x1, x2, x3, x4, x5, x6)))) S) : ∀ (H : Heap) (locs : List Loc), va_P (dC, dI) vwCl (wX q cI cT S) H → va_D A (wX q cI cT S) → va_S A s.heap H locs → ∀ ls : Array Slot, lv_has ls 7 [(0, .ref (q 19)), (1, .int x1), (2, .int x2), (3, .int x3), (4, .int x4), (5, .int x5), (6, .int x6)] → W p l e (headSpec ww_X11_sumOfRows_19 ({ frames := 0, cells := 0, slots := 0, locals := 0 } : Room)).room s m args below meth c H locs 0 0 (MQ below (va_Qi Post (atX dC dI q cI cT A) A) args s 0 0 A) (F0 m 74 ls []) := by
  have hx := X.1
  have hb := X.2.1
  intro H locs hP hD hS ls hl
  dsimp only [B_X11_sumOfRows_19] at h
  refine lv_iload hx hb (dk DX11_sumOfRows 49 rfl) (lv_at hl 5 rfl) ?_
  refine lv_aload_n hx hb (dk DX11_sumOfRows 50 rfl) rfl (lv_at hl 0 rfl) ?_
  refine lv_iconst (v := 4) hx hb (dk DX11_sumOfRows 51 rfl) (by decide) ?_
  refine lv_iload hx hb (dk DX11_sumOfRows 52 rfl) (lv_at hl 6 rfl) ?_
  refine lv_imul hx hb (dk DX11_sumOfRows 53 rfl) ?_
  refine lv_iconst (v := 2) hx hb (dk DX11_sumOfRows 54 rfl) (by decide) ?_
  refine lv_iadd hx hb (dk DX11_sumOfRows 55 rfl) ?_
  obtain ⟨hin, h⟩ := h
  refine ldX_19 X hP hin (dk DX11_sumOfRows 56 rfl) ?_
  refine lv_iadd hx hb (dk DX11_sumOfRows 57 rfl) ?_
  refine lv_topi (fun v4 ev4 => ?_)
  have h := h v4 ev4
  refine lv_istore (lv' := [(5, .int v4), (0, .ref (q 19)), (1, .int x1), (2, .int x2), (3, .int x3), (4, .int x4), (6, .int x6)]) hx hb (dk DX11_sumOfRows 58 rfl) hl (by decide) rfl (fun ls hl => ?_)
  obtain ⟨v5, ev5⟩ : ∃ y : Int32, y = x6 + 1 := ⟨_, rfl⟩
  have h := h v5 ev5
  refine lv_iinc (v := v5) (lv' := [(6, .int v5), (5, .int v4), (0, .ref (q 19)), (1, .int x1), (2, .int x2), (3, .int x3), (4, .int x4)]) hx hb (dk DX11_sumOfRows 59 rfl) hl (k := 6) rfl (by rw [ev5]; rfl) (by decide) rfl (fun ls hl => ?_)
  refine lv_goto (tgt := 6) hx hb (dk DX11_sumOfRows 60 rfl) (by decide) ?_
  exact hK0 x1 x2 x3 x4 v4 v5 S h _ _ hP hD hS ls (lv_sub hl [2, 3, 4, 5, 6, 1, 0] rfl)
set_option maxHeartbeats 4000000 in
set_option maxRecDepth 100000 in
theorem m_X11_sumOfRows_19 {l : Launch} {dC : Nat → ClassId} {dI : Nat → Nat → Nat} {q : Nat → Nat} {cI cT : ClassId} {en : Nat → Nat} {sz : Nat} {Post : Int32 → XS → Prop} (a1 : Int32) (a2 : Int32) (a3 : Int32) (a4 : Int32) (S : XS) (h : VC_X11_sumOfRows_19 Post a1 a2 a3 a4 S) : Met l yX11_sumOfRows ww_X11_sumOfRows_19 ({ frames := 0, cells := 0, slots := 0, locals := 0 } : Room) (va_Pc [.ref (q 19), .int a1, .int a2, .int a3, .int a4] (preX dC dI q cI cT en S sz)) (va_Qi Post (atX dC dI q cI cT (va_A (wX q cI cT S) sz)) (va_A (wX q cI cT S) sz)) 0 0 (va_A (wX q cI cT S) sz) := by
  refine oX (cc := cX11_sumOfRows) (maxL := 7) (ret := (some .int)) (Qc := fun A => va_Qi Post (atX dC dI q cI cT A) A) (own := RX11) (by decide) rfl (fun w h => List.mem_cons_of_mem _ (List.mem_append_right _ h)) rfl (Nat.le_of_ble_eq_true rfl) (fun p e s m below meth c A ls X hr hlocks hP hD hS hl => ?_)
  have hx := X.1
  have hb := X.2.1
  have hl : lv_has ls 7 [(0, .ref (q 19)), (1, .int a1), (2, .int a2), (3, .int a3), (4, .int a4)] := hl
  generalize hargs : ([.ref (q 19), .int a1, .int a2, .int a3, .int a4] : List Value).toArray = args at X ⊢
  have h := h (fun hd S => match hd with | (.inl (x1, x2, x3, x4, x5, x6)) => ∀ (H : Heap) (locs : List Loc), va_P (dC, dI) vwCl (wX q cI cT S) H → va_D A (wX q cI cT S) → va_S A s.heap H locs → ∀ ls : Array Slot, lv_has ls 7 [(0, .ref (q 19)), (1, .int x1), (2, .int x2), (3, .int x3), (4, .int x4), (5, .int x5), (6, .int x6)] → W p l e (headSpec ww_X11_sumOfRows_19 ({ frames := 0, cells := 0, slots := 0, locals := 0 } : Room)).room s m args below meth c H locs 0 0 (MQ below (va_Qi Post (atX dC dI q cI cT A) A) args s 0 0 A) (F0 m 6 ls []) | (.inr (.inl (x1, x2, x3, x4, x5, x6))) => ∀ (H : Heap) (locs : List Loc), va_P (dC, dI) vwCl (wX q cI cT S) H → va_D A (wX q cI cT S) → va_S A s.heap H locs → ∀ ls : Array Slot, lv_has ls 7 [(0, .ref (q 19)), (1, .int x1), (2, .int x2), (3, .int x3), (4, .int x4), (5, .int x5), (6, .int x6)] → W p l e (headSpec ww_X11_sumOfRows_19 ({ frames := 0, cells := 0, slots := 0, locals := 0 } : Room)).room s m args below meth c H locs 0 0 (MQ below (va_Qi Post (atX dC dI q cI cT A) A) args s 0 0 A) (F0 m 38 ls []) | (.inr (.inr (.inl (x1, x2, x3, x4, x5, x6)))) => ∀ (H : Heap) (locs : List Loc), va_P (dC, dI) vwCl (wX q cI cT S) H → va_D A (wX q cI cT S) → va_S A s.heap H locs → ∀ ls : Array Slot, lv_has ls 7 [(0, .ref (q 19)), (1, .int x1), (2, .int x2), (3, .int x3), (4, .int x4), (5, .int x5), (6, .int x6)] → W p l e (headSpec ww_X11_sumOfRows_19 ({ frames := 0, cells := 0, slots := 0, locals := 0 } : Room)).room s m args below meth c H locs 0 0 (MQ below (va_Qi Post (atX dC dI q cI cT A) A) args s 0 0 A) (F0 m 55 ls []) | (.inr (.inr (.inr (x1, x2, x3, x4, x5, x6)))) => ∀ (H : Heap) (locs : List Loc), va_P (dC, dI) vwCl (wX q cI cT S) H → va_D A (wX q cI cT S) → va_S A s.heap H locs → ∀ ls : Array Slot, lv_has ls 7 [(0, .ref (q 19)), (1, .int x1), (2, .int x2), (3, .int x3), (4, .int x4), (5, .int x5), (6, .int x6)] → W p l e (headSpec ww_X11_sumOfRows_19 ({ frames := 0, cells := 0, slots := 0, locals := 0 } : Room)).room s m args below meth c H locs 0 0 (MQ below (va_Qi Post (atX dC dI q cI cT A) A) args s 0 0 A) (F0 m 74 ls [])) ?_
  · skip
    refine lv_iconst (v := 0) hx hb (dk DX11_sumOfRows 0 rfl) (by decide) ?_
    refine lv_istore (lv' := [(5, .int 0), (0, .ref (q 19)), (1, .int a1), (2, .int a2), (3, .int a3), (4, .int a4)]) hx hb (dk DX11_sumOfRows 1 rfl) hl (by decide) rfl (fun ls hl => ?_)
    refine lv_iconst (v := 0) hx hb (dk DX11_sumOfRows 2 rfl) (by decide) ?_
    refine lv_istore (lv' := [(6, .int 0), (5, .int 0), (0, .ref (q 19)), (1, .int a1), (2, .int a2), (3, .int a3), (4, .int a4)]) hx hb (dk DX11_sumOfRows 3 rfl) hl (by decide) rfl (fun ls hl => ?_)
    exact h _ _ hP hD hS ls (lv_sub hl [2, 3, 4, 5, 6, 1, 0] rfl)
  · rintro (⟨x1, x2, x3, x4, x5, x6⟩ | ⟨x1, x2, x3, x4, x5, x6⟩ | ⟨x1, x2, x3, x4, x5, x6⟩ | ⟨x1, x2, x3, x4, x5, x6⟩) S hB
    · exact h_X11_sumOfRows_19_0 X hr hlocks (hK0 := fun _ _ _ _ _ _ _ h => h) (hK1 := fun _ _ _ _ _ _ _ h => h) (hK2 := fun _ _ _ _ _ _ _ h => h) (hK3 := fun _ _ _ _ _ _ _ h => h) x1 x2 x3 x4 x5 x6 S hB
    · exact h_X11_sumOfRows_19_1 X hr hlocks (hK0 := fun _ _ _ _ _ _ _ h => h) (hK1 := fun _ _ _ _ _ _ _ h => h) (hK2 := fun _ _ _ _ _ _ _ h => h) (hK3 := fun _ _ _ _ _ _ _ h => h) x1 x2 x3 x4 x5 x6 S hB
    · exact h_X11_sumOfRows_19_2 X hr hlocks (hK0 := fun _ _ _ _ _ _ _ h => h) (hK1 := fun _ _ _ _ _ _ _ h => h) (hK2 := fun _ _ _ _ _ _ _ h => h) (hK3 := fun _ _ _ _ _ _ _ h => h) x1 x2 x3 x4 x5 x6 S hB
    · exact h_X11_sumOfRows_19_3 X hr hlocks (hK0 := fun _ _ _ _ _ _ _ h => h) (hK1 := fun _ _ _ _ _ _ _ h => h) (hK2 := fun _ _ _ _ _ _ _ h => h) (hK3 := fun _ _ _ _ _ _ _ h => h) x1 x2 x3 x4 x5 x6 S hB

def ww_X7_toldSum_17 : List Cond := .code yX7_toldSum cX7_toldSum 4 (some .int) :: (WdX ++ WsX)
theorem q_X7_toldSum_17 : yX7_toldSum.cls = RX7 ∧ yX7_toldSum.cls ≠ "java/lang/invoke/MethodHandle" ∧ yX7_toldSum.cls ≠ "java/lang/invoke/VarHandle" ∧ (parseMethodDescriptor yX7_toldSum.desc).map (fun d => d.parameters.length) = some 3 := by decide +kernel
def VC_X7_toldSum_17 (Post : Int32 → XS → Prop) (a0 : Int32) (a1 : Int32) (a2 : Int32) (S : XS) : Prop := VC_X11_sumOfRows_19 (fun r2 S1 => Post r2 S1) (S.1 546) a0 a1 a2 S
set_option maxHeartbeats 4000000 in
set_option maxRecDepth 100000 in
theorem m_X7_toldSum_17 {l : Launch} {dC : Nat → ClassId} {dI : Nat → Nat → Nat} {q : Nat → Nat} {cI cT : ClassId} {en : Nat → Nat} {sz : Nat} {Post : Int32 → XS → Prop} (a0 : Int32) (a1 : Int32) (a2 : Int32) (S : XS) (h : VC_X7_toldSum_17 Post a0 a1 a2 S) : Met l yX7_toldSum ww_X7_toldSum_17 ({ frames := 1, cells := 0, slots := 0, locals := 26 } : Room) (va_Pc [.ref (q 17), .int a0, .int a1, .int a2] (preX dC dI q cI cT en S sz)) (va_Qi Post (atX dC dI q cI cT (va_A (wX q cI cT S) sz)) (va_A (wX q cI cT S) sz)) 0 0 (va_A (wX q cI cT S) sz) := by
  refine oX (cc := cX7_toldSum) (maxL := 4) (ret := (some .int)) (Qc := fun A => va_Qi Post (atX dC dI q cI cT A) A) (own := RX7) (by decide) rfl (fun w h => List.mem_cons_of_mem _ (List.mem_append_right _ h)) rfl (Nat.le_of_ble_eq_true rfl) (fun p e s m below meth c A ls X hr hlocks hP hD hS hl => ?_)
  have hx := X.1
  have hb := X.2.1
  have hl : lv_has ls 4 [(0, .ref (q 17)), (1, .int a0), (2, .int a1), (3, .int a2)] := hl
  have lk15 := X.2.2.2.2.1 (.fieldLink RX7 15 "BreathOnLoan$Talk" "told" "[I") (inX 484 rfl)
  have lk32 := X.2.2.2.2.1 (.fieldLink RX7 32 "BreathOnLoan$Talk" "toldCount" "I") (inX 527 rfl)
  dsimp only [VC_X7_toldSum_17] at h
  refine lv_aload_n hx hb (dk DX7_toldSum 0 rfl) rfl (lv_at hl 0 rfl) ?_
  refine gX_17 X hP 3 (by decide) rfl lk15 (dk DX7_toldSum 1 rfl) ?_
  refine lv_aload_n hx hb (dk DX7_toldSum 2 rfl) rfl (lv_at hl 0 rfl) ?_
  refine gX_17 X hP 2 (by decide) rfl lk32 (dk DX7_toldSum 3 rfl) ?_
  refine lv_iload_n hx hb (dk DX7_toldSum 4 rfl) rfl (lv_at hl 1 rfl) ?_
  refine lv_iload_n hx hb (dk DX7_toldSum 5 rfl) rfl (lv_at hl 2 rfl) ?_
  refine lv_iload_n hx hb (dk DX7_toldSum 6 rfl) rfl (lv_at hl 3 rfl) ?_
  refine cXni (As := [.ref (q 19), .int (S.1 546), .int a0, .int a1, .int a2]) (rest := []) X (m_X11_sumOfRows_19 (l := l) (dC := dC) (dI := dI) (q := q) (cI := cI) (cT := cT) (en := en) (sz := _) (S.1 546) a0 a1 a2 S h) ⟨va_cnB (host := "BreathOnLoan") 5 X.2.2.2.2.1 (gxB (List.mem_of_getElem? (i := 13) rfl)) rfl rfl rfl (X.2.2.2.2.2.2.2.2.1.1 _ (List.mem_of_getElem? (i := 4) rfl)) (X.2.2.2.2.1 (.initialized RX11) (inX 16 rfl)) q_X11_sumOfRows_19 ⟨Nat.le_of_ble_eq_true rfl, Nat.le_of_ble_eq_true rfl⟩, X.2.2.2.2.1 (.static yX11_sumOfRows) (inX 15 rfl), trivial⟩ hP hD hS rfl hl.1 rfl (Nat.le_of_ble_eq_true rfl) (dk DX7_toldSum 7 rfl) (fun r2 S1 H locs h hP hD hS => ?_)
  exact W.iret (v := r2) hx hb hr (fun t ht hW => ⟨⟨_, _, rfl, h, by rw [ht]; exact hP, va_K.moved hW.alike X.2.2.2.2.2.2.1, hD⟩, hS.F ht⟩) hS.2.2 (dk DX7_toldSum 8 rfl)

def ww_X8_addFour_41 : List Cond := .code yX8_addFour cX8_addFour 3 none :: (WdX ++ WsX)
theorem q_X8_addFour_41 : yX8_addFour.cls = RX8 ∧ yX8_addFour.cls ≠ "java/lang/invoke/MethodHandle" ∧ yX8_addFour.cls ≠ "java/lang/invoke/VarHandle" ∧ (parseMethodDescriptor yX8_addFour.desc).map (fun d => d.parameters.length) = some 1 := by decide +kernel
abbrev Hd_X8_addFour_41 : Type := (Int32 × Int32)
def B_X8_addFour_41 (Post : XS → Prop) (K : Hd_X8_addFour_41 → XS → Prop) : Hd_X8_addFour_41 → XS → Prop
  | (x1, x2), S => ((x2 < 0 → Post S) ∧ (¬ x2 < 0 → ((300 ≤ (S.1 1313) → Post S) ∧ (¬ 300 ≤ (S.1 1313) → ∀ v1 : Int32, v1 = (x1 >>> (x2 &&& 31)) &&& 255 → vp_in (S.1 1313) 300 ∧ ∀ S2 : XS, S2 = xF S 42 (upd (S.2.1 42) (S.1 1313).toNatClampNeg v1) → ∀ v3 : Int32, v3 = (S2.1 1313) + 1 → ∀ S4 : XS, S4 = xI S2 1313 v3 → ∀ v5 : Int32, v5 = x2 + (-8) → K (x1, v5) S4))))
def VC_X8_addFour_41 (Post : XS → Prop) (a0 : Int32) (S : XS) : Prop := ∀ K : Hd_X8_addFour_41 → XS → Prop, (∀ h S, B_X8_addFour_41 Post K h S → K h S) → K (a0, 24) S
set_option maxHeartbeats 4000000 in
set_option maxRecDepth 100000 in
theorem h_X8_addFour_41_0 {p : Program} {l : Launch} {e : Env} {s : State} {m : MethodId} {below : List Frame} {meth : Method} {c : Code} {dC : Nat → ClassId} {dI : Nat → Nat → Nat} {q : Nat → Nat} {cI cT : ClassId} {en : Nat → Nat} {A : Nat → Prop} {args : Array Value} {Post : XS → Prop} {K : Hd_X8_addFour_41 → XS → Prop} (X : XX p s m args c cX8_addFour 3 ww_X8_addFour_41 RX8 dC dI cI cT en A) (hr : meth.sig.returnType = none) (hlocks : meth.locks = false) (hK0 : ∀ (x1 : Int32) (x2 : Int32) (S : XS), K (x1, x2) S → ∀ (H : Heap) (locs : List Loc), va_P (dC, dI) vwCl (wX q cI cT S) H → va_D A (wX q cI cT S) → va_S A s.heap H locs → ∀ ls : Array Slot, lv_has ls 3 [(0, .ref (q 41)), (1, .int x1), (2, .int x2)] → W p l e (headSpec ww_X8_addFour_41 ({ frames := 0, cells := 0, slots := 0, locals := 0 } : Room)).room s m args below meth c H locs 0 0 (MQ below (va_Qv Post (atX dC dI q cI cT A) A) args s 0 0 A) (F0 m 3 ls [])) (x1 : Int32) (x2 : Int32) (S : XS) (h : B_X8_addFour_41 Post K (x1, x2) S) : ∀ (H : Heap) (locs : List Loc), va_P (dC, dI) vwCl (wX q cI cT S) H → va_D A (wX q cI cT S) → va_S A s.heap H locs → ∀ ls : Array Slot, lv_has ls 3 [(0, .ref (q 41)), (1, .int x1), (2, .int x2)] → W p l e (headSpec ww_X8_addFour_41 ({ frames := 0, cells := 0, slots := 0, locals := 0 } : Room)).room s m args below meth c H locs 0 0 (MQ below (va_Qv Post (atX dC dI q cI cT A) A) args s 0 0 A) (F0 m 3 ls []) := by
  have hx := X.1
  have hb := X.2.1
  intro H locs hP hD hS ls hl
  have lk15 := X.2.2.2.2.1 (.fieldLink RX8 15 "BreathOnLoan$Tape" "length" "I") (inX 561 rfl)
  have lk9 := X.2.2.2.2.1 (.fieldLink RX8 9 "BreathOnLoan$Tape" "bytes" "[I") (inX 559 rfl)
  dsimp only [B_X8_addFour_41] at h
  refine lv_iload_n hx hb (dk DX8_addFour 2 rfl) rfl (lv_at hl 2 rfl) ?_
  refine lv_if_lt (tgt := 49) hx hb (dk DX8_addFour 3 rfl) (by decide) (fun hc => ?_) (fun hc => ?_)
  · have h := h.1 hc
    exact W.vret hx hb hr (fun t ht hW => ⟨⟨_, rfl, h, by rw [ht]; exact hP, va_K.moved hW.alike X.2.2.2.2.2.2.1, hD⟩, hS.F ht⟩) hS.2.2 (dk DX8_addFour 26 rfl)
  · have h := h.2 hc
    refine lv_aload_n hx hb (dk DX8_addFour 4 rfl) rfl (lv_at hl 0 rfl) ?_
    refine gX_41 X hP 1 (by decide) rfl lk15 (dk DX8_addFour 5 rfl) ?_
    refine lv_sipush (v := 300) hx hb (dk DX8_addFour 6 rfl) (by decide) ?_
    refine lv_icmp_ge (tgt := 49) hx hb (dk DX8_addFour 7 rfl) (by decide) (fun hc => ?_) (fun hc => ?_)
    · have h := h.1 hc
      exact W.vret hx hb hr (fun t ht hW => ⟨⟨_, rfl, h, by rw [ht]; exact hP, va_K.moved hW.alike X.2.2.2.2.2.2.1, hD⟩, hS.F ht⟩) hS.2.2 (dk DX8_addFour 26 rfl)
    · have h := h.2 hc
      refine lv_aload_n hx hb (dk DX8_addFour 8 rfl) rfl (lv_at hl 0 rfl) ?_
      refine gX_41 X hP 0 (by decide) rfl lk9 (dk DX8_addFour 9 rfl) ?_
      refine lv_aload_n hx hb (dk DX8_addFour 10 rfl) rfl (lv_at hl 0 rfl) ?_
      refine gX_41 X hP 1 (by decide) rfl lk15 (dk DX8_addFour 11 rfl) ?_
      refine lv_iload_n hx hb (dk DX8_addFour 12 rfl) rfl (lv_at hl 1 rfl) ?_
      refine lv_iload_n hx hb (dk DX8_addFour 13 rfl) rfl (lv_at hl 2 rfl) ?_
      refine lv_ishr hx hb (dk DX8_addFour 14 rfl) ?_
      refine lv_sipush (v := 255) hx hb (dk DX8_addFour 15 rfl) (by decide) ?_
      refine lv_iand hx hb (dk DX8_addFour 16 rfl) ?_
      refine lv_topi (fun v1 ev1 => ?_)
      have h := h v1 ev1
      obtain ⟨hin, h⟩ := h
      refine stX_42 X hP hD hS hin (dk DX8_addFour 17 rfl) (fun S2 eS2 H locs hP hD hS => ?_)
      have h := h S2 eS2
      refine lv_aload_n hx hb (dk DX8_addFour 18 rfl) rfl (lv_at hl 0 rfl) ?_
      refine lv_dup hx hb (dk DX8_addFour 19 rfl) rfl ?_
      refine gX_41 X hP 1 (by decide) rfl lk15 (dk DX8_addFour 20 rfl) ?_
      refine lv_iconst (v := 1) hx hb (dk DX8_addFour 21 rfl) (by decide) ?_
      refine lv_iadd hx hb (dk DX8_addFour 22 rfl) ?_
      refine lv_topi (fun v3 ev3 => ?_)
      have h := h v3 ev3
      refine pX_41_1 X hP hD hS lk15 (dk DX8_addFour 23 rfl) (fun S4 eS4 H locs hP hD hS => ?_)
      have h := h S4 eS4
      obtain ⟨v5, ev5⟩ : ∃ y : Int32, y = x2 + (-8) := ⟨_, rfl⟩
      have h := h v5 ev5
      refine lv_iinc (v := v5) (lv' := [(2, .int v5), (0, .ref (q 41)), (1, .int x1)]) hx hb (dk DX8_addFour 24 rfl) hl (k := 2) rfl (by rw [ev5]; rfl) (by decide) rfl (fun ls hl => ?_)
      refine lv_goto (tgt := 3) hx hb (dk DX8_addFour 25 rfl) (by decide) ?_
      exact hK0 x1 v5 S4 h _ _ hP hD hS ls (lv_sub hl [1, 2, 0] rfl)
set_option maxHeartbeats 4000000 in
set_option maxRecDepth 100000 in
theorem m_X8_addFour_41 {l : Launch} {dC : Nat → ClassId} {dI : Nat → Nat → Nat} {q : Nat → Nat} {cI cT : ClassId} {en : Nat → Nat} {sz : Nat} {Post : XS → Prop} (a0 : Int32) (S : XS) (h : VC_X8_addFour_41 Post a0 S) : Met l yX8_addFour ww_X8_addFour_41 ({ frames := 0, cells := 0, slots := 0, locals := 0 } : Room) (va_Pc [.ref (q 41), .int a0] (preX dC dI q cI cT en S sz)) (va_Qv Post (atX dC dI q cI cT (va_A (wX q cI cT S) sz)) (va_A (wX q cI cT S) sz)) 0 0 (va_A (wX q cI cT S) sz) := by
  refine oX (cc := cX8_addFour) (maxL := 3) (ret := none) (Qc := fun A => va_Qv Post (atX dC dI q cI cT A) A) (own := RX8) (by decide) rfl (fun w h => List.mem_cons_of_mem _ (List.mem_append_right _ h)) rfl (Nat.le_of_ble_eq_true rfl) (fun p e s m below meth c A ls X hr hlocks hP hD hS hl => ?_)
  have hx := X.1
  have hb := X.2.1
  have hl : lv_has ls 3 [(0, .ref (q 41)), (1, .int a0)] := hl
  have lk15 := X.2.2.2.2.1 (.fieldLink RX8 15 "BreathOnLoan$Tape" "length" "I") (inX 561 rfl)
  have lk9 := X.2.2.2.2.1 (.fieldLink RX8 9 "BreathOnLoan$Tape" "bytes" "[I") (inX 559 rfl)
  generalize hargs : ([.ref (q 41), .int a0] : List Value).toArray = args at X ⊢
  have h := h (fun hd S => match hd with | (x1, x2) => ∀ (H : Heap) (locs : List Loc), va_P (dC, dI) vwCl (wX q cI cT S) H → va_D A (wX q cI cT S) → va_S A s.heap H locs → ∀ ls : Array Slot, lv_has ls 3 [(0, .ref (q 41)), (1, .int x1), (2, .int x2)] → W p l e (headSpec ww_X8_addFour_41 ({ frames := 0, cells := 0, slots := 0, locals := 0 } : Room)).room s m args below meth c H locs 0 0 (MQ below (va_Qv Post (atX dC dI q cI cT A) A) args s 0 0 A) (F0 m 3 ls [])) ?_
  · skip
    refine lv_bipush (v := 24) hx hb (dk DX8_addFour 0 rfl) (by decide) ?_
    refine lv_istore_n (lv' := [(2, .int 24), (0, .ref (q 41)), (1, .int a0)]) hx hb (dk DX8_addFour 1 rfl) rfl hl (by decide) rfl (fun ls hl => ?_)
    exact h _ _ hP hD hS ls (lv_sub hl [1, 2, 0] rfl)
  · rintro ⟨x1, x2⟩ S hB
    exact h_X8_addFour_41_0 X hr hlocks (hK0 := fun _ _ _ h => h) x1 x2 S hB

