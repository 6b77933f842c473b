-- X0_logBubble_11 X11_sumOfRows_14 X0_sum_11 X0_givers_11 J7_rangeCheck_23922 J7_fill_fda19_16 X6_push_15
def ww_X0_logBubble_11 : List Cond := .code yX0_logBubble cX0_logBubble 4 none :: (WdX ++ WsX)
theorem q_X0_logBubble_11 : yX0_logBubble.cls = RX0 ∧ yX0_logBubble.cls ≠ "java/lang/invoke/MethodHandle" ∧ yX0_logBubble.cls ≠ "java/lang/invoke/VarHandle" ∧ (parseMethodDescriptor yX0_logBubble.desc).map (fun d => d.parameters.length) = some 3 := by decide +kernel
def VC_X0_logBubble_11 (Post : XS → Prop) (a0 : Int32) (a1 : Int32) (a2 : Int32) (S : XS) : Prop := ((40 ≤ (S.1 356) → Post S) ∧ (¬ 40 ≤ (S.1 356) → vp_in (4 * (S.1 356)) 160 ∧ ∀ S1 : XS, S1 = xF S 14 (upd (S.2.1 14) (4 * (S.1 356)).toNatClampNeg a0) → vp_in ((4 * (S1.1 356)) + 1) 160 ∧ ∀ S2 : XS, S2 = xF S1 14 (upd (S1.2.1 14) ((4 * (S1.1 356)) + 1).toNatClampNeg a1) → vp_in ((4 * (S2.1 356)) + 2) 160 ∧ ∀ S3 : XS, S3 = xF S2 14 (upd (S2.2.1 14) ((4 * (S2.1 356)) + 2).toNatClampNeg a2) → ∀ v4 : Int32, v4 = (S3.1 352) → vp_in ((4 * (S3.1 356)) + 3) 160 ∧ ∀ S5 : XS, S5 = xF S3 14 (upd (S3.2.1 14) ((4 * (S3.1 356)) + 3).toNatClampNeg v4) → ∀ v6 : Int32, v6 = (S5.1 356) + 1 → ∀ S7 : XS, S7 = xI S5 356 v6 → Post S7))
set_option maxHeartbeats 4000000 in
set_option maxRecDepth 100000 in
theorem m_X0_logBubble_11 {l : Launch} {dC : Nat → ClassId} {dI : Nat → Nat → Nat} {q : Nat → Nat} {cI cT : ClassId} {en : Nat → Nat} {sz : Nat} {Post : XS → Prop} (a0 : Int32) (a1 : Int32) (a2 : Int32) (S : XS) (h : VC_X0_logBubble_11 Post a0 a1 a2 S) : Met l yX0_logBubble ww_X0_logBubble_11 ({ frames := 0, cells := 0, slots := 0, locals := 0 } : Room) (va_Pc [.ref (q 11), .int a0, .int a1, .int a2] (preX dC dI q cI cT en S sz)) (va_Qv Post (atX dC dI q cI cT (va_A (wX q cI cT S) sz)) (va_A (wX q cI cT S) sz)) 0 0 (va_A (wX q cI cT S) sz) := by
  refine oX (cc := cX0_logBubble) (maxL := 4) (ret := none) (Qc := fun A => va_Qv Post (atX dC dI q cI cT A) A) (own := RX0) (by decide) rfl (fun w h => List.mem_cons_of_mem _ (List.mem_append_right _ h)) rfl (Nat.le_of_ble_eq_true rfl) (fun p e s m below meth c A ls X hr hlocks hP hD hS hl => ?_)
  have hx := X.1
  have hb := X.2.1
  have hl : lv_has ls 4 [(0, .ref (q 11)), (1, .int a0), (2, .int a1), (3, .int a2)] := hl
  have lk25 := X.2.2.2.2.1 (.fieldLink RX0 25 "BreathOnLoan$Bench" "bubbles" "I") (inX 11 rfl)
  have lk18 := X.2.2.2.2.1 (.fieldLink RX0 18 "BreathOnLoan$Bench" "log" "[I") (inX 7 rfl)
  have lk28 := X.2.2.2.2.1 (.fieldLink RX0 28 "BreathOnLoan$Bench" "hour" "I") (inX 12 rfl)
  dsimp only [VC_X0_logBubble_11] at h
  refine lv_aload_n hx hb (dk DX0_logBubble 0 rfl) rfl (lv_at hl 0 rfl) ?_
  refine gX_11 X hP 4 (by decide) rfl lk25 (dk DX0_logBubble 1 rfl) ?_
  refine lv_bipush (v := 40) hx hb (dk DX0_logBubble 2 rfl) (by decide) ?_
  refine lv_icmp_ge (tgt := 76) hx hb (dk DX0_logBubble 3 rfl) (by decide) (fun hc => ?_) (fun hc => ?_)
  · have h := h.1 hc
    exact W.vret hx hb hr (fun t ht hW => ⟨⟨_, rfl, h, by rw [ht]; exact hP, va_K.moved hW.alike X.2.2.2.2.2.2.1, hD⟩, hS.F ht⟩) hS.2.2 (dk DX0_logBubble 49 rfl)
  · have h := h.2 hc
    refine lv_aload_n hx hb (dk DX0_logBubble 4 rfl) rfl (lv_at hl 0 rfl) ?_
    refine gX_11 X hP 5 (by decide) rfl lk18 (dk DX0_logBubble 5 rfl) ?_
    refine lv_iconst (v := 4) hx hb (dk DX0_logBubble 6 rfl) (by decide) ?_
    refine lv_aload_n hx hb (dk DX0_logBubble 7 rfl) rfl (lv_at hl 0 rfl) ?_
    refine gX_11 X hP 4 (by decide) rfl lk25 (dk DX0_logBubble 8 rfl) ?_
    refine lv_imul hx hb (dk DX0_logBubble 9 rfl) ?_
    refine lv_iload_n hx hb (dk DX0_logBubble 10 rfl) rfl (lv_at hl 1 rfl) ?_
    obtain ⟨hin, h⟩ := h
    refine stX_14 X hP hD hS hin (dk DX0_logBubble 11 rfl) (fun S1 eS1 H locs hP hD hS => ?_)
    have h := h S1 eS1
    refine lv_aload_n hx hb (dk DX0_logBubble 12 rfl) rfl (lv_at hl 0 rfl) ?_
    refine gX_11 X hP 5 (by decide) rfl lk18 (dk DX0_logBubble 13 rfl) ?_
    refine lv_iconst (v := 4) hx hb (dk DX0_logBubble 14 rfl) (by decide) ?_
    refine lv_aload_n hx hb (dk DX0_logBubble 15 rfl) rfl (lv_at hl 0 rfl) ?_
    refine gX_11 X hP 4 (by decide) rfl lk25 (dk DX0_logBubble 16 rfl) ?_
    refine lv_imul hx hb (dk DX0_logBubble 17 rfl) ?_
    refine lv_iconst (v := 1) hx hb (dk DX0_logBubble 18 rfl) (by decide) ?_
    refine lv_iadd hx hb (dk DX0_logBubble 19 rfl) ?_
    refine lv_iload_n hx hb (dk DX0_logBubble 20 rfl) rfl (lv_at hl 2 rfl) ?_
    obtain ⟨hin, h⟩ := h
    refine stX_14 X hP hD hS hin (dk DX0_logBubble 21 rfl) (fun S2 eS2 H locs hP hD hS => ?_)
    have h := h S2 eS2
    refine lv_aload_n hx hb (dk DX0_logBubble 22 rfl) rfl (lv_at hl 0 rfl) ?_
    refine gX_11 X hP 5 (by decide) rfl lk18 (dk DX0_logBubble 23 rfl) ?_
    refine lv_iconst (v := 4) hx hb (dk DX0_logBubble 24 rfl) (by decide) ?_
    refine lv_aload_n hx hb (dk DX0_logBubble 25 rfl) rfl (lv_at hl 0 rfl) ?_
    refine gX_11 X hP 4 (by decide) rfl lk25 (dk DX0_logBubble 26 rfl) ?_
    refine lv_imul hx hb (dk DX0_logBubble 27 rfl) ?_
    refine lv_iconst (v := 2) hx hb (dk DX0_logBubble 28 rfl) (by decide) ?_
    refine lv_iadd hx hb (dk DX0_logBubble 29 rfl) ?_
    refine lv_iload_n hx hb (dk DX0_logBubble 30 rfl) rfl (lv_at hl 3 rfl) ?_
    obtain ⟨hin, h⟩ := h
    refine stX_14 X hP hD hS hin (dk DX0_logBubble 31 rfl) (fun S3 eS3 H locs hP hD hS => ?_)
    have h := h S3 eS3
    refine lv_aload_n hx hb (dk DX0_logBubble 32 rfl) rfl (lv_at hl 0 rfl) ?_
    refine gX_11 X hP 5 (by decide) rfl lk18 (dk DX0_logBubble 33 rfl) ?_
    refine lv_iconst (v := 4) hx hb (dk DX0_logBubble 34 rfl) (by decide) ?_
    refine lv_aload_n hx hb (dk DX0_logBubble 35 rfl) rfl (lv_at hl 0 rfl) ?_
    refine gX_11 X hP 4 (by decide) rfl lk25 (dk DX0_logBubble 36 rfl) ?_
    refine lv_imul hx hb (dk DX0_logBubble 37 rfl) ?_
    refine lv_iconst (v := 3) hx hb (dk DX0_logBubble 38 rfl) (by decide) ?_
    refine lv_iadd hx hb (dk DX0_logBubble 39 rfl) ?_
    refine lv_aload_n hx hb (dk DX0_logBubble 40 rfl) rfl (lv_at hl 0 rfl) ?_
    refine gX_11 X hP 0 (by decide) rfl lk28 (dk DX0_logBubble 41 rfl) ?_
    refine lv_topi (fun v4 ev4 => ?_)
    have h := h v4 ev4
    obtain ⟨hin, h⟩ := h
    refine stX_14 X hP hD hS hin (dk DX0_logBubble 42 rfl) (fun S5 eS5 H locs hP hD hS => ?_)
    have h := h S5 eS5
    refine lv_aload_n hx hb (dk DX0_logBubble 43 rfl) rfl (lv_at hl 0 rfl) ?_
    refine lv_dup hx hb (dk DX0_logBubble 44 rfl) rfl ?_
    refine gX_11 X hP 4 (by decide) rfl lk25 (dk DX0_logBubble 45 rfl) ?_
    refine lv_iconst (v := 1) hx hb (dk DX0_logBubble 46 rfl) (by decide) ?_
    refine lv_iadd hx hb (dk DX0_logBubble 47 rfl) ?_
    refine lv_topi (fun v6 ev6 => ?_)
    have h := h v6 ev6
    refine pX_11_4 X hP hD hS lk25 (dk DX0_logBubble 48 rfl) (fun S7 eS7 H locs hP hD hS => ?_)
    have h := h S7 eS7
    exact W.vret hx hb hr (fun t ht hW => ⟨⟨_, rfl, h, by rw [ht]; exact hP, va_K.moved hW.alike X.2.2.2.2.2.2.1, hD⟩, hS.F ht⟩) hS.2.2 (dk DX0_logBubble 49 rfl)

def ww_X11_sumOfRows_14 : List Cond := .code yX11_sumOfRows cX11_sumOfRows 7 (some .int) :: (WdX ++ WsX)
theorem q_X11_sumOfRows_14 : yX11_sumOfRows.cls ≠ "java/lang/invoke/MethodHandle" ∧ yX11_sumOfRows.cls ≠ "java/lang/invoke/VarHandle" ∧ (parseMethodDescriptor yX11_sumOfRows.desc).map (fun d => d.parameters.length) = some 5 := by decide +kernel
abbrev Hd_X11_sumOfRows_14 : Type := (Int32 × Int32 × Int32 × Int32 × Int32 × Int32) ⊕ (Int32 × Int32 × Int32 × Int32 × Int32 × Int32) ⊕ (Int32 × Int32 × Int32 × Int32 × Int32 × Int32) ⊕ (Int32 × Int32 × Int32 × Int32 × Int32 × Int32)
def B_X11_sumOfRows_14 (Post : Int32 → XS → Prop) (K : Hd_X11_sumOfRows_14 → XS → Prop) : Hd_X11_sumOfRows_14 → XS → Prop
  | (.inl (x1, x2, x3, x4, x5, x6)), S => ((x1 ≤ x6 → Post x5 S) ∧ (¬ x1 ≤ x6 → ((160 ≤ ((4 * x6) + 3) → Post x5 S) ∧ (¬ 160 ≤ ((4 * x6) + 3) → ((x2 = (-1) → K (.inr (.inl (x1, x2, x3, x4, x5, x6))) S) ∧ (¬ x2 = (-1) → vp_in (4 * x6) 160 ∧ ((¬ ((S.2.1 14) (4 * x6).toNatClampNeg) = x2 → ∀ v1 : Int32, v1 = x6 + 1 → K (.inl (x1, x2, x3, x4, x5, v1)) S) ∧ (((S.2.1 14) (4 * x6).toNatClampNeg) = x2 → K (.inr (.inl (x1, x2, x3, x4, x5, x6))) S))))))))
  | (.inr (.inl (x1, x2, x3, x4, x5, x6))), S => ((x3 = (-1) → K (.inr (.inr (.inl (x1, x2, x3, x4, x5, x6)))) S) ∧ (¬ x3 = (-1) → vp_in ((4 * x6) + 1) 160 ∧ ((¬ ((S.2.1 14) ((4 * x6) + 1).toNatClampNeg) = x3 → ∀ v2 : Int32, v2 = x6 + 1 → K (.inl (x1, x2, x3, x4, x5, v2)) S) ∧ (((S.2.1 14) ((4 * x6) + 1).toNatClampNeg) = x3 → K (.inr (.inr (.inl (x1, x2, x3, x4, x5, x6)))) S))))
  | (.inr (.inr (.inl (x1, x2, x3, x4, x5, x6)))), S => ((x4 = (-1) → K (.inr (.inr (.inr (x1, x2, x3, x4, x5, x6)))) S) ∧ (¬ x4 = (-1) → vp_in ((4 * x6) + 3) 160 ∧ ((¬ ((S.2.1 14) ((4 * x6) + 3).toNatClampNeg) = x4 → ∀ v3 : Int32, v3 = x6 + 1 → K (.inl (x1, x2, x3, x4, x5, v3)) S) ∧ (((S.2.1 14) ((4 * x6) + 3).toNatClampNeg) = x4 → K (.inr (.inr (.inr (x1, x2, x3, x4, x5, x6)))) S))))
  | (.inr (.inr (.inr (x1, x2, x3, x4, x5, x6)))), S => vp_in ((4 * x6) + 2) 160 ∧ ∀ v4 : Int32, v4 = x5 + ((S.2.1 14) ((4 * x6) + 2).toNatClampNeg) → ∀ v5 : Int32, v5 = x6 + 1 → K (.inl (x1, x2, x3, x4, v4, v5)) S
def VC_X11_sumOfRows_14 (Post : Int32 → XS → Prop) (a1 : Int32) (a2 : Int32) (a3 : Int32) (a4 : Int32) (S : XS) : Prop := ∀ K : Hd_X11_sumOfRows_14 → XS → Prop, (∀ h S, B_X11_sumOfRows_14 Post K h S → K h S) → K (.inl (a1, a2, a3, a4, 0, 0)) S
set_option maxHeartbeats 4000000 in
set_option maxRecDepth 100000 in
theorem h_X11_sumOfRows_14_0 {p : Program} {l : Launch} {e : Env} {s : State} {m : MethodId} {below : List Frame} {meth : Method} {c : Code} {dC : Nat → ClassId} {dI : Nat → Nat → Nat} {q : Nat → Nat} {cI cT : ClassId} {en : Nat → Nat} {A : Nat → Prop} {args : Array Value} {Post : Int32 → XS → Prop} {K : Hd_X11_sumOfRows_14 → XS → Prop} (X : XX p s m args c cX11_sumOfRows 7 ww_X11_sumOfRows_14 RX11 dC dI cI cT en A) (hr : meth.sig.returnType = (some .int)) (hlocks : meth.locks = false) (hK0 : ∀ (x1 : Int32) (x2 : Int32) (x3 : Int32) (x4 : Int32) (x5 : Int32) (x6 : Int32) (S : XS), K (.inl (x1, x2, x3, x4, x5, x6)) S → ∀ (H : Heap) (locs : List Loc), va_P (dC, dI) vwCl (wX q cI cT S) H → va_D A (wX q cI cT S) → va_S A s.heap H locs → ∀ ls : Array Slot, lv_has ls 7 [(0, .ref (q 14)), (1, .int x1), (2, .int x2), (3, .int x3), (4, .int x4), (5, .int x5), (6, .int x6)] → W p l e (headSpec ww_X11_sumOfRows_14 ({ frames := 0, cells := 0, slots := 0, locals := 0 } : Room)).room s m args below meth c H locs 0 0 (MQ below (va_Qi Post (atX dC dI q cI cT A) A) args s 0 0 A) (F0 m 6 ls [])) (hK1 : ∀ (x1 : Int32) (x2 : Int32) (x3 : Int32) (x4 : Int32) (x5 : Int32) (x6 : Int32) (S : XS), K (.inr (.inl (x1, x2, x3, x4, x5, x6))) S → ∀ (H : Heap) (locs : List Loc), va_P (dC, dI) vwCl (wX q cI cT S) H → va_D A (wX q cI cT S) → va_S A s.heap H locs → ∀ ls : Array Slot, lv_has ls 7 [(0, .ref (q 14)), (1, .int x1), (2, .int x2), (3, .int x3), (4, .int x4), (5, .int x5), (6, .int x6)] → W p l e (headSpec ww_X11_sumOfRows_14 ({ frames := 0, cells := 0, slots := 0, locals := 0 } : Room)).room s m args below meth c H locs 0 0 (MQ below (va_Qi Post (atX dC dI q cI cT A) A) args s 0 0 A) (F0 m 38 ls [])) (hK2 : ∀ (x1 : Int32) (x2 : Int32) (x3 : Int32) (x4 : Int32) (x5 : Int32) (x6 : Int32) (S : XS), K (.inr (.inr (.inl (x1, x2, x3, x4, x5, x6)))) S → ∀ (H : Heap) (locs : List Loc), va_P (dC, dI) vwCl (wX q cI cT S) H → va_D A (wX q cI cT S) → va_S A s.heap H locs → ∀ ls : Array Slot, lv_has ls 7 [(0, .ref (q 14)), (1, .int x1), (2, .int x2), (3, .int x3), (4, .int x4), (5, .int x5), (6, .int x6)] → W p l e (headSpec ww_X11_sumOfRows_14 ({ frames := 0, cells := 0, slots := 0, locals := 0 } : Room)).room s m args below meth c H locs 0 0 (MQ below (va_Qi Post (atX dC dI q cI cT A) A) args s 0 0 A) (F0 m 55 ls [])) (hK3 : ∀ (x1 : Int32) (x2 : Int32) (x3 : Int32) (x4 : Int32) (x5 : Int32) (x6 : Int32) (S : XS), K (.inr (.inr (.inr (x1, x2, x3, x4, x5, x6)))) S → ∀ (H : Heap) (locs : List Loc), va_P (dC, dI) vwCl (wX q cI cT S) H → va_D A (wX q cI cT S) → va_S A s.heap H locs → ∀ ls : Array Slot, lv_has ls 7 [(0, .ref (q 14)), (1, .int x1), (2, .int x2), (3, .int x3), (4, .int x4), (5, .int x5), (6, .int x6)] → W p l e (headSpec ww_X11_sumOfRows_14 ({ frames := 0, cells := 0, slots := 0, locals := 0 } : Room)).room s m args below meth c H locs 0 0 (MQ below (va_Qi Post (atX dC dI q cI cT A) A) args s 0 0 A) (F0 m 74 ls [])) (x1 : Int32) (x2 : Int32) (x3 : Int32) (x4 : Int32) (x5 : Int32) (x6 : Int32) (S : XS) (h : B_X11_sumOfRows_14 Post K (.inl (x1, x2, x3, x4, x5, x6)) S) : ∀ (H : Heap) (locs : List Loc), va_P (dC, dI) vwCl (wX q cI cT S) H → va_D A (wX q cI cT S) → va_S A s.heap H locs → ∀ ls : Array Slot, lv_has ls 7 [(0, .ref (q 14)), (1, .int x1), (2, .int x2), (3, .int x3), (4, .int x4), (5, .int x5), (6, .int x6)] → W p l e (headSpec ww_X11_sumOfRows_14 ({ frames := 0, cells := 0, slots := 0, locals := 0 } : Room)).room s m args below meth c H locs 0 0 (MQ below (va_Qi Post (atX dC dI q cI cT A) A) args s 0 0 A) (F0 m 6 ls []) := by
  have hx := X.1
  have hb := X.2.1
  intro H locs hP hD hS ls hl
  dsimp only [B_X11_sumOfRows_14] at h
  refine lv_iload hx hb (dk DX11_sumOfRows 4 rfl) (lv_at hl 6 rfl) ?_
  refine lv_iload_n hx hb (dk DX11_sumOfRows 5 rfl) rfl (lv_at hl 1 rfl) ?_
  refine lv_icmp_ge (tgt := 93) hx hb (dk DX11_sumOfRows 6 rfl) (by decide) (fun hc => ?_) (fun hc => ?_)
  · have h := h.1 hc
    refine lv_iload hx hb (dk DX11_sumOfRows 61 rfl) (lv_at hl 5 rfl) ?_
    exact W.iret (v := x5) hx hb hr (fun t ht hW => ⟨⟨_, _, rfl, h, by rw [ht]; exact hP, va_K.moved hW.alike X.2.2.2.2.2.2.1, hD⟩, hS.F ht⟩) hS.2.2 (dk DX11_sumOfRows 62 rfl)
  · have h := h.2 hc
    refine lv_iconst (v := 4) hx hb (dk DX11_sumOfRows 7 rfl) (by decide) ?_
    refine lv_iload hx hb (dk DX11_sumOfRows 8 rfl) (lv_at hl 6 rfl) ?_
    refine lv_imul hx hb (dk DX11_sumOfRows 9 rfl) ?_
    refine lv_iconst (v := 3) hx hb (dk DX11_sumOfRows 10 rfl) (by decide) ?_
    refine lv_iadd hx hb (dk DX11_sumOfRows 11 rfl) ?_
    refine lv_aload_n hx hb (dk DX11_sumOfRows 12 rfl) rfl (lv_at hl 0 rfl) ?_
    refine alX_14 X hP (dk DX11_sumOfRows 13 rfl) ?_
    refine lv_icmp_ge (tgt := 93) hx hb (dk DX11_sumOfRows 14 rfl) (by decide) (fun hc => ?_) (fun hc => ?_)
    · have h := h.1 hc
      refine lv_iload hx hb (dk DX11_sumOfRows 61 rfl) (lv_at hl 5 rfl) ?_
      exact W.iret (v := x5) hx hb hr (fun t ht hW => ⟨⟨_, _, rfl, h, by rw [ht]; exact hP, va_K.moved hW.alike X.2.2.2.2.2.2.1, hD⟩, hS.F ht⟩) hS.2.2 (dk DX11_sumOfRows 62 rfl)
    · have h := h.2 hc
      refine lv_iload_n hx hb (dk DX11_sumOfRows 15 rfl) rfl (lv_at hl 2 rfl) ?_
      refine lv_iconst (v := (-1)) hx hb (dk DX11_sumOfRows 16 rfl) (by decide) ?_
      refine lv_icmp_eq (tgt := 38) hx hb (dk DX11_sumOfRows 17 rfl) (by decide) (fun hc => ?_) (fun hc => ?_)
      · have h := h.1 hc
        exact hK1 x1 x2 x3 x4 x5 x6 S h _ _ hP hD hS ls (lv_sub hl [0, 1, 2, 3, 4, 5, 6] rfl)
      · have h := h.2 hc
        refine lv_aload_n hx hb (dk DX11_sumOfRows 18 rfl) rfl (lv_at hl 0 rfl) ?_
        refine lv_iconst (v := 4) hx hb (dk DX11_sumOfRows 19 rfl) (by decide) ?_
        refine lv_iload hx hb (dk DX11_sumOfRows 20 rfl) (lv_at hl 6 rfl) ?_
        refine lv_imul hx hb (dk DX11_sumOfRows 21 rfl) ?_
        obtain ⟨hin, h⟩ := h
        refine ldX_14 X hP hin (dk DX11_sumOfRows 22 rfl) ?_
        refine lv_iload_n hx hb (dk DX11_sumOfRows 23 rfl) rfl (lv_at hl 2 rfl) ?_
        refine lv_icmp_ne (tgt := 87) hx hb (dk DX11_sumOfRows 24 rfl) (by decide) (fun hc => ?_) (fun hc => ?_)
        · have h := h.1 hc
          obtain ⟨v1, ev1⟩ : ∃ y : Int32, y = x6 + 1 := ⟨_, rfl⟩
          have h := h v1 ev1
          refine lv_iinc (v := v1) (lv' := [(6, .int v1), (0, .ref (q 14)), (1, .int x1), (2, .int x2), (3, .int x3), (4, .int x4), (5, .int x5)]) hx hb (dk DX11_sumOfRows 59 rfl) hl (k := 6) rfl (by rw [ev1]; rfl) (by decide) rfl (fun ls hl => ?_)
          refine lv_goto (tgt := 6) hx hb (dk DX11_sumOfRows 60 rfl) (by decide) ?_
          exact hK0 x1 x2 x3 x4 x5 v1 S h _ _ hP hD hS ls (lv_sub hl [1, 2, 3, 4, 5, 6, 0] rfl)
        · have h := h.2 hc
          exact hK1 x1 x2 x3 x4 x5 x6 S h _ _ hP hD hS ls (lv_sub hl [0, 1, 2, 3, 4, 5, 6] rfl)
set_option maxHeartbeats 4000000 in
set_option maxRecDepth 100000 in
theorem h_X11_sumOfRows_14_1 {p : Program} {l : Launch} {e : Env} {s : State} {m : MethodId} {below : List Frame} {meth : Method} {c : Code} {dC : Nat → ClassId} {dI : Nat → Nat → Nat} {q : Nat → Nat} {cI cT : ClassId} {en : Nat → Nat} {A : Nat → Prop} {args : Array Value} {Post : Int32 → XS → Prop} {K : Hd_X11_sumOfRows_14 → XS → Prop} (X : XX p s m args c cX11_sumOfRows 7 ww_X11_sumOfRows_14 RX11 dC dI cI cT en A) (hr : meth.sig.returnType = (some .int)) (hlocks : meth.locks = false) (hK0 : ∀ (x1 : Int32) (x2 : Int32) (x3 : Int32) (x4 : Int32) (x5 : Int32) (x6 : Int32) (S : XS), K (.inl (x1, x2, x3, x4, x5, x6)) S → ∀ (H : Heap) (locs : List Loc), va_P (dC, dI) vwCl (wX q cI cT S) H → va_D A (wX q cI cT S) → va_S A s.heap H locs → ∀ ls : Array Slot, lv_has ls 7 [(0, .ref (q 14)), (1, .int x1), (2, .int x2), (3, .int x3), (4, .int x4), (5, .int x5), (6, .int x6)] → W p l e (headSpec ww_X11_sumOfRows_14 ({ frames := 0, cells := 0, slots := 0, locals := 0 } : Room)).room s m args below meth c H locs 0 0 (MQ below (va_Qi Post (atX dC dI q cI cT A) A) args s 0 0 A) (F0 m 6 ls [])) (hK1 : ∀ (x1 : Int32) (x2 : Int32) (x3 : Int32) (x4 : Int32) (x5 : Int32) (x6 : Int32) (S : XS), K (.inr (.inl (x1, x2, x3, x4, x5, x6))) S → ∀ (H : Heap) (locs : List Loc), va_P (dC, dI) vwCl (wX q cI cT S) H → va_D A (wX q cI cT S) → va_S A s.heap H locs → ∀ ls : Array Slot, lv_has ls 7 [(0, .ref (q 14)), (1, .int x1), (2, .int x2), (3, .int x3), (4, .int x4), (5, .int x5), (6, .int x6)] → W p l e (headSpec ww_X11_sumOfRows_14 ({ frames := 0, cells := 0, slots := 0, locals := 0 } : Room)).room s m args below meth c H locs 0 0 (MQ below (va_Qi Post (atX dC dI q cI cT A) A) args s 0 0 A) (F0 m 38 ls [])) (hK2 : ∀ (x1 : Int32) (x2 : Int32) (x3 : Int32) (x4 : Int32) (x5 : Int32) (x6 : Int32) (S : XS), K (.inr (.inr (.inl (x1, x2, x3, x4, x5, x6)))) S → ∀ (H : Heap) (locs : List Loc), va_P (dC, dI) vwCl (wX q cI cT S) H → va_D A (wX q cI cT S) → va_S A s.heap H locs → ∀ ls : Array Slot, lv_has ls 7 [(0, .ref (q 14)), (1, .int x1), (2, .int x2), (3, .int x3), (4, .int x4), (5, .int x5), (6, .int x6)] → W p l e (headSpec ww_X11_sumOfRows_14 ({ frames := 0, cells := 0, slots := 0, locals := 0 } : Room)).room s m args below meth c H locs 0 0 (MQ below (va_Qi Post (atX dC dI q cI cT A) A) args s 0 0 A) (F0 m 55 ls [])) (hK3 : ∀ (x1 : Int32) (x2 : Int32) (x3 : Int32) (x4 : Int32) (x5 : Int32) (x6 : Int32) (S : XS), K (.inr (.inr (.inr (x1, x2, x3, x4, x5, x6)))) S → ∀ (H : Heap) (locs : List Loc), va_P (dC, dI) vwCl (wX q cI cT S) H → va_D A (wX q cI cT S) → va_S A s.heap H locs → ∀ ls : Array Slot, lv_has ls 7 [(0, .ref (q 14)), (1, .int x1), (2, .int x2), (3, .int x3), (4, .int x4), (5, .int x5), (6, .int x6)] → W p l e (headSpec ww_X11_sumOfRows_14 ({ frames := 0, cells := 0, slots := 0, locals := 0 } : Room)).room s m args below meth c H locs 0 0 (MQ below (va_Qi Post (atX dC dI q cI cT A) A) args s 0 0 A) (F0 m 74 ls [])) (x1 : Int32) (x2 : Int32) (x3 : Int32) (x4 : Int32) (x5 : Int32) (x6 : Int32) (S : XS) (h : B_X11_sumOfRows_14 Post K (.inr (.inl (x1, x2, x3, x4, x5, x6))) S) : ∀ (H : Heap) (locs : List Loc), va_P (dC, dI) vwCl (wX q cI cT S) H → va_D A (wX q cI cT S) → va_S A s.heap H locs → ∀ ls : Array Slot, lv_has ls 7 [(0, .ref (q 14)), (1, .int x1), (2, .int x2), (3, .int x3), (4, .int x4), (5, .int x5), (6, .int x6)] → W p l e (headSpec ww_X11_sumOfRows_14 ({ frames := 0, cells := 0, slots := 0, locals := 0 } : Room)).room s m args below meth c H locs 0 0 (MQ below (va_Qi Post (atX dC dI q cI cT A) A) args s 0 0 A) (F0 m 38 ls []) := by
  have hx := X.1
  have hb := X.2.1
  intro H locs hP hD hS ls hl
  dsimp only [B_X11_sumOfRows_14] at h
  refine lv_iload_n hx hb (dk DX11_sumOfRows 25 rfl) rfl (lv_at hl 3 rfl) ?_
  refine lv_iconst (v := (-1)) hx hb (dk DX11_sumOfRows 26 rfl) (by decide) ?_
  refine lv_icmp_eq (tgt := 55) hx hb (dk DX11_sumOfRows 27 rfl) (by decide) (fun hc => ?_) (fun hc => ?_)
  · have h := h.1 hc
    exact hK2 x1 x2 x3 x4 x5 x6 S h _ _ hP hD hS ls (lv_sub hl [0, 1, 2, 3, 4, 5, 6] rfl)
  · have h := h.2 hc
    refine lv_aload_n hx hb (dk DX11_sumOfRows 28 rfl) rfl (lv_at hl 0 rfl) ?_
    refine lv_iconst (v := 4) hx hb (dk DX11_sumOfRows 29 rfl) (by decide) ?_
    refine lv_iload hx hb (dk DX11_sumOfRows 30 rfl) (lv_at hl 6 rfl) ?_
    refine lv_imul hx hb (dk DX11_sumOfRows 31 rfl) ?_
    refine lv_iconst (v := 1) hx hb (dk DX11_sumOfRows 32 rfl) (by decide) ?_
    refine lv_iadd hx hb (dk DX11_sumOfRows 33 rfl) ?_
    obtain ⟨hin, h⟩ := h
    refine ldX_14 X hP hin (dk DX11_sumOfRows 34 rfl) ?_
    refine lv_iload_n hx hb (dk DX11_sumOfRows 35 rfl) rfl (lv_at hl 3 rfl) ?_
    refine lv_icmp_ne (tgt := 87) hx hb (dk DX11_sumOfRows 36 rfl) (by decide) (fun hc => ?_) (fun hc => ?_)
    · have h := h.1 hc
      obtain ⟨v2, ev2⟩ : ∃ y : Int32, y = x6 + 1 := ⟨_, rfl⟩
      have h := h v2 ev2
      refine lv_iinc (v := v2) (lv' := [(6, .int v2), (0, .ref (q 14)), (1, .int x1), (2, .int x2), (3, .int x3), (4, .int x4), (5, .int x5)]) hx hb (dk DX11_sumOfRows 59 rfl) hl (k := 6) rfl (by rw [ev2]; rfl) (by decide) rfl (fun ls hl => ?_)
      refine lv_goto (tgt := 6) hx hb (dk DX11_sumOfRows 60 rfl) (by decide) ?_
      exact hK0 x1 x2 x3 x4 x5 v2 S h _ _ hP hD hS ls (lv_sub hl [1, 2, 3, 4, 5, 6, 0] rfl)
    · have h := h.2 hc
      exact hK2 x1 x2 x3 x4 x5 x6 S h _ _ hP hD hS ls (lv_sub hl [0, 1, 2, 3, 4, 5, 6] rfl)
set_option maxHeartbeats 4000000 in
set_option maxRecDepth 100000 in
theorem h_X11_sumOfRows_14_2 {p : Program} {l : Launch} {e : Env} {s : State} {m : MethodId} {below : List Frame} {meth : Method} {c : Code} {dC : Nat → ClassId} {dI : Nat → Nat → Nat} {q : Nat → Nat} {cI cT : ClassId} {en : Nat → Nat} {A : Nat → Prop} {args : Array Value} {Post : Int32 → XS → Prop} {K : Hd_X11_sumOfRows_14 → XS → Prop} (X : XX p s m args c cX11_sumOfRows 7 ww_X11_sumOfRows_14 RX11 dC dI cI cT en A) (hr : meth.sig.returnType = (some .int)) (hlocks : meth.locks = false) (hK0 : ∀ (x1 : Int32) (x2 : Int32) (x3 : Int32) (x4 : Int32) (x5 : Int32) (x6 : Int32) (S : XS), K (.inl (x1, x2, x3, x4, x5, x6)) S → ∀ (H : Heap) (locs : List Loc), va_P (dC, dI) vwCl (wX q cI cT S) H → va_D A (wX q cI cT S) → va_S A s.heap H locs → ∀ ls : Array Slot, lv_has ls 7 [(0, .ref (q 14)), (1, .int x1), (2, .int x2), (3, .int x3), (4, .int x4), (5, .int x5), (6, .int x6)] → W p l e (headSpec ww_X11_sumOfRows_14 ({ frames := 0, cells := 0, slots := 0, locals := 0 } : Room)).room s m args below meth c H locs 0 0 (MQ below (va_Qi Post (atX dC dI q cI cT A) A) args s 0 0 A) (F0 m 6 ls [])) (hK1 : ∀ (x1 : Int32) (x2 : Int32) (x3 : Int32) (x4 : Int32) (x5 : Int32) (x6 : Int32) (S : XS), K (.inr (.inl (x1, x2, x3, x4, x5, x6))) S → ∀ (H : Heap) (locs : List Loc), va_P (dC, dI) vwCl (wX q cI cT S) H → va_D A (wX q cI cT S) → va_S A s.heap H locs → ∀ ls : Array Slot, lv_has ls 7 [(0, .ref (q 14)), (1, .int x1), (2, .int x2), (3, .int x3), (4, .int x4), (5, .int x5), (6, .int x6)] → W p l e (headSpec ww_X11_sumOfRows_14 ({ frames := 0, cells := 0, slots := 0, locals := 0 } : Room)).room s m args below meth c H locs 0 0 (MQ below (va_Qi Post (atX dC dI q cI cT A) A) args s 0 0 A) (F0 m 38 ls [])) (hK2 : ∀ (x1 : Int32) (x2 : Int32) (x3 : Int32) (x4 : Int32) (x5 : Int32) (x6 : Int32) (S : XS), K (.inr (.inr (.inl (x1, x2, x3, x4, x5, x6)))) S → ∀ (H : Heap) (locs : List Loc), va_P (dC, dI) vwCl (wX q cI cT S) H → va_D A (wX q cI cT S) → va_S A s.heap H locs → ∀ ls : Array Slot, lv_has ls 7 [(0, .ref (q 14)), (1, .int x1), (2, .int x2), (3, .int x3), (4, .int x4), (5, .int x5), (6, .int x6)] → W p l e (headSpec ww_X11_sumOfRows_14 ({ frames := 0, cells := 0, slots := 0, locals := 0 } : Room)).room s m args below meth c H locs 0 0 (MQ below (va_Qi Post (atX dC dI q cI cT A) A) args s 0 0 A) (F0 m 55 ls [])) (hK3 : ∀ (x1 : Int32) (x2 : Int32) (x3 : Int32) (x4 : Int32) (x5 : Int32) (x6 : Int32) (S : XS), K (.inr (.inr (.inr (x1, x2, x3, x4, x5, x6)))) S → ∀ (H : Heap) (locs : List Loc), va_P (dC, dI) vwCl (wX q cI cT S) H → va_D A (wX q cI cT S) → va_S A s.heap H locs → ∀ ls : Array Slot, lv_has ls 7 [(0, .ref (q 14)), (1, .int x1), (2, .int x2), (3, .int x3), (4, .int x4), (5, .int x5), (6, .int x6)] → W p l e (headSpec ww_X11_sumOfRows_14 ({ frames := 0, cells := 0, slots := 0, locals := 0 } : Room)).room s m args below meth c H locs 0 0 (MQ below (va_Qi Post (atX dC dI q cI cT A) A) args s 0 0 A) (F0 m 74 ls [])) (x1 : Int32) (x2 : Int32) (x3 : Int32) (x4 : Int32) (x5 : Int32) (x6 : Int32) (S : XS) (h : B_X11_sumOfRows_14 Post K (.inr (.inr (.inl (x1, x2, x3, x4, x5, x6)))) S) : ∀ (H : Heap) (locs : List Loc), va_P (dC, dI) vwCl (wX q cI cT S) H → va_D A (wX q cI cT S) → va_S A s.heap H locs → ∀ ls : Array Slot, lv_has ls 7 [(0, .ref (q 14)), (1, .int x1), (2, .int x2), (3, .int x3), (4, .int x4), (5, .int x5), (6, .int x6)] → W p l e (headSpec ww_X11_sumOfRows_14 ({ frames := 0, cells := 0, slots := 0, locals := 0 } : Room)).room s m args below meth c H locs 0 0 (MQ below (va_Qi Post (atX dC dI q cI cT A) A) args s 0 0 A) (F0 m 55 ls []) := by
  have hx := X.1
  have hb := X.2.1
  intro H locs hP hD hS ls hl
  dsimp only [B_X11_sumOfRows_14] at h
  refine lv_iload hx hb (dk DX11_sumOfRows 37 rfl) (lv_at hl 4 rfl) ?_
  refine lv_iconst (v := (-1)) hx hb (dk DX11_sumOfRows 38 rfl) (by decide) ?_
  refine lv_icmp_eq (tgt := 74) hx hb (dk DX11_sumOfRows 39 rfl) (by decide) (fun hc => ?_) (fun hc => ?_)
  · have h := h.1 hc
    exact hK3 x1 x2 x3 x4 x5 x6 S h _ _ hP hD hS ls (lv_sub hl [0, 1, 2, 3, 4, 5, 6] rfl)
  · have h := h.2 hc
    refine lv_aload_n hx hb (dk DX11_sumOfRows 40 rfl) rfl (lv_at hl 0 rfl) ?_
    refine lv_iconst (v := 4) hx hb (dk DX11_sumOfRows 41 rfl) (by decide) ?_
    refine lv_iload hx hb (dk DX11_sumOfRows 42 rfl) (lv_at hl 6 rfl) ?_
    refine lv_imul hx hb (dk DX11_sumOfRows 43 rfl) ?_
    refine lv_iconst (v := 3) hx hb (dk DX11_sumOfRows 44 rfl) (by decide) ?_
    refine lv_iadd hx hb (dk DX11_sumOfRows 45 rfl) ?_
    obtain ⟨hin, h⟩ := h
    refine ldX_14 X hP hin (dk DX11_sumOfRows 46 rfl) ?_
    refine lv_iload hx hb (dk DX11_sumOfRows 47 rfl) (lv_at hl 4 rfl) ?_
    refine lv_icmp_ne (tgt := 87) hx hb (dk DX11_sumOfRows 48 rfl) (by decide) (fun hc => ?_) (fun hc => ?_)
    · have h := h.1 hc
      obtain ⟨v3, ev3⟩ : ∃ y : Int32, y = x6 + 1 := ⟨_, rfl⟩
      have h := h v3 ev3
      refine lv_iinc (v := v3) (lv' := [(6, .int v3), (0, .ref (q 14)), (1, .int x1), (2, .int x2), (3, .int x3), (4, .int x4), (5, .int x5)]) hx hb (dk DX11_sumOfRows 59 rfl) hl (k := 6) rfl (by rw [ev3]; rfl) (by decide) rfl (fun ls hl => ?_)
      refine lv_goto (tgt := 6) hx hb (dk DX11_sumOfRows 60 rfl) (by decide) ?_
      exact hK0 x1 x2 x3 x4 x5 v3 S h _ _ hP hD hS ls (lv_sub hl [1, 2, 3, 4, 5, 6, 0] rfl)
    · have h := h.2 hc
      exact hK3 x1 x2 x3 x4 x5 x6 S h _ _ hP hD hS ls (lv_sub hl [0, 1, 2, 3, 4, 5, 6] rfl)
set_option maxHeartbeats 4000000 in
set_option maxRecDepth 100000 in
theorem h_X11_sumOfRows_14_3 {p : Program} {l : Launch} {e : Env} {s : State} {m : MethodId} {below : List Frame} {meth : Method} {c : Code} {dC : Nat → ClassId} {dI : Nat → Nat → Nat} {q : Nat → Nat} {cI cT : ClassId} {en : Nat → Nat} {A : Nat → Prop} {args : Array Value} {Post : Int32 → XS → Prop} {K : Hd_X11_sumOfRows_14 → XS → Prop} (X : XX p s m args c cX11_sumOfRows 7 ww_X11_sumOfRows_14 RX11 dC dI cI cT en A) (hr : meth.sig.returnType = (some .int)) (hlocks : meth.locks = false) (hK0 : ∀ (x1 : Int32) (x2 : Int32) (x3 : Int32) (x4 : Int32) (x5 : Int32) (x6 : Int32) (S : XS), K (.inl (x1, x2, x3, x4, x5, x6)) S → ∀ (H : Heap) (locs : List Loc), va_P (dC, dI) vwCl (wX q cI cT S) H → va_D A (wX q cI cT S) → va_S A s.heap H locs → ∀ ls : Array Slot, lv_has ls 7 [(0, .ref (q 14)), (1, .int x1), (2, .int x2), (3, .int x3), (4, .int x4), (5, .int x5), (6, .int x6)] → W p l e (headSpec ww_X11_sumOfRows_14 ({ frames := 0, cells := 0, slots := 0, locals := 0 } : Room)).room s m args below meth c H locs 0 0 (MQ below (va_Qi Post (atX dC dI q cI cT A) A) args s 0 0 A) (F0 m 6 ls [])) (hK1 : ∀ (x1 : Int32) (x2 : Int32) (x3 : Int32) (x4 : Int32) (x5 : Int32) (x6 : Int32) (S : XS), K (.inr (.inl (x1, x2, x3, x4, x5, x6))) S → ∀ (H : Heap) (locs : List Loc), va_P (dC, dI) vwCl (wX q cI cT S) H → va_D A (wX q cI cT S) → va_S A s.heap H locs → ∀ ls : Array Slot, lv_has ls 7 [(0, .ref (q 14)), (1, .int x1), (2, .int x2), (3, .int x3), (4, .int x4), (5, .int x5), (6, .int x6)] → W p l e (headSpec ww_X11_sumOfRows_14 ({ frames := 0, cells := 0, slots := 0, locals := 0 } : Room)).room s m args below meth c H locs 0 0 (MQ below (va_Qi Post (atX dC dI q cI cT A) A) args s 0 0 A) (F0 m 38 ls [])) (hK2 : ∀ (x1 : Int32) (x2 : Int32) (x3 : Int32) (x4 : Int32) (x5 : Int32) (x6 : Int32) (S : XS), K (.inr (.inr (.inl (x1, x2, x3, x4, x5, x6)))) S → ∀ (H : Heap) (locs : List Loc), va_P (dC, dI) vwCl (wX q cI cT S) H → va_D A (wX q cI cT S) → va_S A s.heap H locs → ∀ ls : Array Slot, lv_has ls 7 [(0, .ref (q 14)), (1, .int x1), (2, .int x2), (3, .int x3), (4, .int x4), (5, .int x5), (6, .int x6)] → W p l e (headSpec ww_X11_sumOfRows_14 ({ frames := 0, cells := 0, slots := 0, locals := 0 } : Room)).room s m args below meth c H locs 0 0 (MQ below (va_Qi Post (atX dC dI q cI cT A) A) args s 0 0 A) (F0 m 55 ls [])) (hK3 : ∀ (x1 : Int32) (x2 : Int32) (x3 : Int32) (x4 : Int32) (x5 : Int32) (x6 : Int32) (S : XS), K (.inr (.inr (.inr (x1, x2, x3, x4, x5, x6)))) S → ∀ (H : Heap) (locs : List Loc), va_P (dC, dI) vwCl (wX q cI cT S) H → va_D A (wX q cI cT S) → va_S A s.heap H locs → ∀ ls : Array Slot, lv_has ls 7 [(0, .ref (q 14)), (1, .int x1), (2, .int x2), (3, .int x3), (4, .int x4), (5, .int x5), (6, .int x6)] → W p l e (headSpec ww_X11_sumOfRows_14 ({ frames := 0, cells := 0, slots := 0, locals := 0 } : Room)).room s m args below meth c H locs 0 0 (MQ below (va_Qi Post (atX dC dI q cI cT A) A) args s 0 0 A) (F0 m 74 ls [])) (x1 : Int32) (x2 : Int32) (x3 : Int32) (x4 : Int32) (x5 : Int32) (x6 : Int32) (S : XS) (h : B_X11_sumOfRows_14 Post K (.inr (.inr (.inr (x1, x2, x3, x4, x5, x6)))) S) : ∀ (H : Heap) (locs : List Loc), va_P (dC, dI) vwCl (wX q cI cT S) H → va_D A (wX q cI cT S) → va_S A s.heap H locs → ∀ ls : Array Slot, lv_has ls 7 [(0, .ref (q 14)), (1, .int x1), (2, .int x2), (3, .int x3), (4, .int x4), (5, .int x5), (6, .int x6)] → W p l e (headSpec ww_X11_sumOfRows_14 ({ frames := 0, cells := 0, slots := 0, locals := 0 } : Room)).room s m args below meth c H locs 0 0 (MQ below (va_Qi Post (atX dC dI q cI cT A) A) args s 0 0 A) (F0 m 74 ls []) := by
  have hx := X.1
  have hb := X.2.1
  intro H locs hP hD hS ls hl
  dsimp only [B_X11_sumOfRows_14] at h
  refine lv_iload hx hb (dk DX11_sumOfRows 49 rfl) (lv_at hl 5 rfl) ?_
  refine lv_aload_n hx hb (dk DX11_sumOfRows 50 rfl) rfl (lv_at hl 0 rfl) ?_
  refine lv_iconst (v := 4) hx hb (dk DX11_sumOfRows 51 rfl) (by decide) ?_
  refine lv_iload hx hb (dk DX11_sumOfRows 52 rfl) (lv_at hl 6 rfl) ?_
  refine lv_imul hx hb (dk DX11_sumOfRows 53 rfl) ?_
  refine lv_iconst (v := 2) hx hb (dk DX11_sumOfRows 54 rfl) (by decide) ?_
  refine lv_iadd hx hb (dk DX11_sumOfRows 55 rfl) ?_
  obtain ⟨hin, h⟩ := h
  refine ldX_14 X hP hin (dk DX11_sumOfRows 56 rfl) ?_
  refine lv_iadd hx hb (dk DX11_sumOfRows 57 rfl) ?_
  refine lv_topi (fun v4 ev4 => ?_)
  have h := h v4 ev4
  refine lv_istore (lv' := [(5, .int v4), (0, .ref (q 14)), (1, .int x1), (2, .int x2), (3, .int x3), (4, .int x4), (6, .int x6)]) hx hb (dk DX11_sumOfRows 58 rfl) hl (by decide) rfl (fun ls hl => ?_)
  obtain ⟨v5, ev5⟩ : ∃ y : Int32, y = x6 + 1 := ⟨_, rfl⟩
  have h := h v5 ev5
  refine lv_iinc (v := v5) (lv' := [(6, .int v5), (5, .int v4), (0, .ref (q 14)), (1, .int x1), (2, .int x2), (3, .int x3), (4, .int x4)]) hx hb (dk DX11_sumOfRows 59 rfl) hl (k := 6) rfl (by rw [ev5]; rfl) (by decide) rfl (fun ls hl => ?_)
  refine lv_goto (tgt := 6) hx hb (dk DX11_sumOfRows 60 rfl) (by decide) ?_
  exact hK0 x1 x2 x3 x4 v4 v5 S h _ _ hP hD hS ls (lv_sub hl [2, 3, 4, 5, 6, 1, 0] rfl)
set_option maxHeartbeats 4000000 in
set_option maxRecDepth 100000 in
theorem m_X11_sumOfRows_14 {l : Launch} {dC : Nat → ClassId} {dI : Nat → Nat → Nat} {q : Nat → Nat} {cI cT : ClassId} {en : Nat → Nat} {sz : Nat} {Post : Int32 → XS → Prop} (a1 : Int32) (a2 : Int32) (a3 : Int32) (a4 : Int32) (S : XS) (h : VC_X11_sumOfRows_14 Post a1 a2 a3 a4 S) : Met l yX11_sumOfRows ww_X11_sumOfRows_14 ({ frames := 0, cells := 0, slots := 0, locals := 0 } : Room) (va_Pc [.ref (q 14), .int a1, .int a2, .int a3, .int a4] (preX dC dI q cI cT en S sz)) (va_Qi Post (atX dC dI q cI cT (va_A (wX q cI cT S) sz)) (va_A (wX q cI cT S) sz)) 0 0 (va_A (wX q cI cT S) sz) := by
  refine oX (cc := cX11_sumOfRows) (maxL := 7) (ret := (some .int)) (Qc := fun A => va_Qi Post (atX dC dI q cI cT A) A) (own := RX11) (by decide) rfl (fun w h => List.mem_cons_of_mem _ (List.mem_append_right _ h)) rfl (Nat.le_of_ble_eq_true rfl) (fun p e s m below meth c A ls X hr hlocks hP hD hS hl => ?_)
  have hx := X.1
  have hb := X.2.1
  have hl : lv_has ls 7 [(0, .ref (q 14)), (1, .int a1), (2, .int a2), (3, .int a3), (4, .int a4)] := hl
  generalize hargs : ([.ref (q 14), .int a1, .int a2, .int a3, .int a4] : List Value).toArray = args at X ⊢
  have h := h (fun hd S => match hd with | (.inl (x1, x2, x3, x4, x5, x6)) => ∀ (H : Heap) (locs : List Loc), va_P (dC, dI) vwCl (wX q cI cT S) H → va_D A (wX q cI cT S) → va_S A s.heap H locs → ∀ ls : Array Slot, lv_has ls 7 [(0, .ref (q 14)), (1, .int x1), (2, .int x2), (3, .int x3), (4, .int x4), (5, .int x5), (6, .int x6)] → W p l e (headSpec ww_X11_sumOfRows_14 ({ frames := 0, cells := 0, slots := 0, locals := 0 } : Room)).room s m args below meth c H locs 0 0 (MQ below (va_Qi Post (atX dC dI q cI cT A) A) args s 0 0 A) (F0 m 6 ls []) | (.inr (.inl (x1, x2, x3, x4, x5, x6))) => ∀ (H : Heap) (locs : List Loc), va_P (dC, dI) vwCl (wX q cI cT S) H → va_D A (wX q cI cT S) → va_S A s.heap H locs → ∀ ls : Array Slot, lv_has ls 7 [(0, .ref (q 14)), (1, .int x1), (2, .int x2), (3, .int x3), (4, .int x4), (5, .int x5), (6, .int x6)] → W p l e (headSpec ww_X11_sumOfRows_14 ({ frames := 0, cells := 0, slots := 0, locals := 0 } : Room)).room s m args below meth c H locs 0 0 (MQ below (va_Qi Post (atX dC dI q cI cT A) A) args s 0 0 A) (F0 m 38 ls []) | (.inr (.inr (.inl (x1, x2, x3, x4, x5, x6)))) => ∀ (H : Heap) (locs : List Loc), va_P (dC, dI) vwCl (wX q cI cT S) H → va_D A (wX q cI cT S) → va_S A s.heap H locs → ∀ ls : Array Slot, lv_has ls 7 [(0, .ref (q 14)), (1, .int x1), (2, .int x2), (3, .int x3), (4, .int x4), (5, .int x5), (6, .int x6)] → W p l e (headSpec ww_X11_sumOfRows_14 ({ frames := 0, cells := 0, slots := 0, locals := 0 } : Room)).room s m args below meth c H locs 0 0 (MQ below (va_Qi Post (atX dC dI q cI cT A) A) args s 0 0 A) (F0 m 55 ls []) | (.inr (.inr (.inr (x1, x2, x3, x4, x5, x6)))) => ∀ (H : Heap) (locs : List Loc), va_P (dC, dI) vwCl (wX q cI cT S) H → va_D A (wX q cI cT S) → va_S A s.heap H locs → ∀ ls : Array Slot, lv_has ls 7 [(0, .ref (q 14)), (1, .int x1), (2, .int x2), (3, .int x3), (4, .int x4), (5, .int x5), (6, .int x6)] → W p l e (headSpec ww_X11_sumOfRows_14 ({ frames := 0, cells := 0, slots := 0, locals := 0 } : Room)).room s m args below meth c H locs 0 0 (MQ below (va_Qi Post (atX dC dI q cI cT A) A) args s 0 0 A) (F0 m 74 ls [])) ?_
  · skip
    refine lv_iconst (v := 0) hx hb (dk DX11_sumOfRows 0 rfl) (by decide) ?_
    refine lv_istore (lv' := [(5, .int 0), (0, .ref (q 14)), (1, .int a1), (2, .int a2), (3, .int a3), (4, .int a4)]) hx hb (dk DX11_sumOfRows 1 rfl) hl (by decide) rfl (fun ls hl => ?_)
    refine lv_iconst (v := 0) hx hb (dk DX11_sumOfRows 2 rfl) (by decide) ?_
    refine lv_istore (lv' := [(6, .int 0), (5, .int 0), (0, .ref (q 14)), (1, .int a1), (2, .int a2), (3, .int a3), (4, .int a4)]) hx hb (dk DX11_sumOfRows 3 rfl) hl (by decide) rfl (fun ls hl => ?_)
    exact h _ _ hP hD hS ls (lv_sub hl [2, 3, 4, 5, 6, 1, 0] rfl)
  · rintro (⟨x1, x2, x3, x4, x5, x6⟩ | ⟨x1, x2, x3, x4, x5, x6⟩ | ⟨x1, x2, x3, x4, x5, x6⟩ | ⟨x1, x2, x3, x4, x5, x6⟩) S hB
    · exact h_X11_sumOfRows_14_0 X hr hlocks (hK0 := fun _ _ _ _ _ _ _ h => h) (hK1 := fun _ _ _ _ _ _ _ h => h) (hK2 := fun _ _ _ _ _ _ _ h => h) (hK3 := fun _ _ _ _ _ _ _ h => h) x1 x2 x3 x4 x5 x6 S hB
    · exact h_X11_sumOfRows_14_1 X hr hlocks (hK0 := fun _ _ _ _ _ _ _ h => h) (hK1 := fun _ _ _ _ _ _ _ h => h) (hK2 := fun _ _ _ _ _ _ _ h => h) (hK3 := fun _ _ _ _ _ _ _ h => h) x1 x2 x3 x4 x5 x6 S hB
    · exact h_X11_sumOfRows_14_2 X hr hlocks (hK0 := fun _ _ _ _ _ _ _ h => h) (hK1 := fun _ _ _ _ _ _ _ h => h) (hK2 := fun _ _ _ _ _ _ _ h => h) (hK3 := fun _ _ _ _ _ _ _ h => h) x1 x2 x3 x4 x5 x6 S hB
    · exact h_X11_sumOfRows_14_3 X hr hlocks (hK0 := fun _ _ _ _ _ _ _ h => h) (hK1 := fun _ _ _ _ _ _ _ h => h) (hK2 := fun _ _ _ _ _ _ _ h => h) (hK3 := fun _ _ _ _ _ _ _ h => h) x1 x2 x3 x4 x5 x6 S hB

def ww_X0_sum_11 : List Cond := .code yX0_sum cX0_sum 4 (some .int) :: (WdX ++ WsX)
theorem q_X0_sum_11 : yX0_sum.cls = RX0 ∧ yX0_sum.cls ≠ "java/lang/invoke/MethodHandle" ∧ yX0_sum.cls ≠ "java/lang/invoke/VarHandle" ∧ (parseMethodDescriptor yX0_sum.desc).map (fun d => d.parameters.length) = some 3 := by decide +kernel
def VC_X0_sum_11 (Post : Int32 → XS → Prop) (a0 : Int32) (a1 : Int32) (a2 : Int32) (S : XS) : Prop := VC_X11_sumOfRows_14 (fun r2 S1 => Post r2 S1) (S.1 356) a0 a1 a2 S
set_option maxHeartbeats 4000000 in
set_option maxRecDepth 100000 in
theorem m_X0_sum_11 {l : Launch} {dC : Nat → ClassId} {dI : Nat → Nat → Nat} {q : Nat → Nat} {cI cT : ClassId} {en : Nat → Nat} {sz : Nat} {Post : Int32 → XS → Prop} (a0 : Int32) (a1 : Int32) (a2 : Int32) (S : XS) (h : VC_X0_sum_11 Post a0 a1 a2 S) : Met l yX0_sum ww_X0_sum_11 ({ frames := 1, cells := 0, slots := 0, locals := 26 } : Room) (va_Pc [.ref (q 11), .int a0, .int a1, .int a2] (preX dC dI q cI cT en S sz)) (va_Qi Post (atX dC dI q cI cT (va_A (wX q cI cT S) sz)) (va_A (wX q cI cT S) sz)) 0 0 (va_A (wX q cI cT S) sz) := by
  refine oX (cc := cX0_sum) (maxL := 4) (ret := (some .int)) (Qc := fun A => va_Qi Post (atX dC dI q cI cT A) A) (own := RX0) (by decide) rfl (fun w h => List.mem_cons_of_mem _ (List.mem_append_right _ h)) rfl (Nat.le_of_ble_eq_true rfl) (fun p e s m below meth c A ls X hr hlocks hP hD hS hl => ?_)
  have hx := X.1
  have hb := X.2.1
  have hl : lv_has ls 4 [(0, .ref (q 11)), (1, .int a0), (2, .int a1), (3, .int a2)] := hl
  have lk18 := X.2.2.2.2.1 (.fieldLink RX0 18 "BreathOnLoan$Bench" "log" "[I") (inX 7 rfl)
  have lk25 := X.2.2.2.2.1 (.fieldLink RX0 25 "BreathOnLoan$Bench" "bubbles" "I") (inX 11 rfl)
  dsimp only [VC_X0_sum_11] at h
  refine lv_aload_n hx hb (dk DX0_sum 0 rfl) rfl (lv_at hl 0 rfl) ?_
  refine gX_11 X hP 5 (by decide) rfl lk18 (dk DX0_sum 1 rfl) ?_
  refine lv_aload_n hx hb (dk DX0_sum 2 rfl) rfl (lv_at hl 0 rfl) ?_
  refine gX_11 X hP 4 (by decide) rfl lk25 (dk DX0_sum 3 rfl) ?_
  refine lv_iload_n hx hb (dk DX0_sum 4 rfl) rfl (lv_at hl 1 rfl) ?_
  refine lv_iload_n hx hb (dk DX0_sum 5 rfl) rfl (lv_at hl 2 rfl) ?_
  refine lv_iload_n hx hb (dk DX0_sum 6 rfl) rfl (lv_at hl 3 rfl) ?_
  refine cXni (As := [.ref (q 14), .int (S.1 356), .int a0, .int a1, .int a2]) (rest := []) X (m_X11_sumOfRows_14 (l := l) (dC := dC) (dI := dI) (q := q) (cI := cI) (cT := cT) (en := en) (sz := _) (S.1 356) a0 a1 a2 S h) ⟨va_cnB (host := "BreathOnLoan") 5 X.2.2.2.2.1 (gxB (List.mem_of_getElem? (i := 13) rfl)) rfl rfl rfl (X.2.2.2.2.2.2.2.2.1.1 _ (List.mem_of_getElem? (i := 2) rfl)) (X.2.2.2.2.1 (.initialized RX11) (inX 16 rfl)) q_X11_sumOfRows_14 ⟨Nat.le_of_ble_eq_true rfl, Nat.le_of_ble_eq_true rfl⟩, X.2.2.2.2.1 (.static yX11_sumOfRows) (inX 15 rfl), trivial⟩ hP hD hS rfl hl.1 rfl (Nat.le_of_ble_eq_true rfl) (dk DX0_sum 7 rfl) (fun r2 S1 H locs h hP hD hS => ?_)
  exact W.iret (v := r2) hx hb hr (fun t ht hW => ⟨⟨_, _, rfl, h, by rw [ht]; exact hP, va_K.moved hW.alike X.2.2.2.2.2.2.1, hD⟩, hS.F ht⟩) hS.2.2 (dk DX0_sum 8 rfl)

def ww_X0_givers_11 : List Cond := .code yX0_givers cX0_givers 4 (some .int) :: (WdX ++ WsX)
theorem q_X0_givers_11 : yX0_givers.cls = RX0 ∧ yX0_givers.cls ≠ "java/lang/invoke/MethodHandle" ∧ yX0_givers.cls ≠ "java/lang/invoke/VarHandle" ∧ (parseMethodDescriptor yX0_givers.desc).map (fun d => d.parameters.length) = some 1 := by decide +kernel
abbrev Hd_X0_givers_11 : Type := (Int32 × Int32 × Int32)
def B_X0_givers_11 (Post : Int32 → XS → Prop) (K : Hd_X0_givers_11 → XS → Prop) : Hd_X0_givers_11 → XS → Prop
  | (x1, x2, x3), S => (((S.1 356) ≤ x3 → Post x2 S) ∧ (¬ (S.1 356) ≤ x3 → vp_in (4 * x3) 160 ∧ ((¬ ((S.2.1 14) (4 * x3).toNatClampNeg) = x1 → ∀ v1 : Int32, v1 = x3 + 1 → K (x1, x2, v1) S) ∧ (((S.2.1 14) (4 * x3).toNatClampNeg) = x1 → vp_in ((4 * x3) + 1) 160 ∧ ∀ v2 : Int32, v2 = x2 ||| ((1 : Int32) <<< (((S.2.1 14) ((4 * x3) + 1).toNatClampNeg) &&& 31)) → ∀ v3 : Int32, v3 = x3 + 1 → K (x1, v2, v3) S))))
def VC_X0_givers_11 (Post : Int32 → XS → Prop) (a0 : Int32) (S : XS) : Prop := ∀ K : Hd_X0_givers_11 → XS → Prop, (∀ h S, B_X0_givers_11 Post K h S → K h S) → K (a0, 0, 0) S
set_option maxHeartbeats 4000000 in
set_option maxRecDepth 100000 in
theorem h_X0_givers_11_0 {p : Program} {l : Launch} {e : Env} {s : State} {m : MethodId} {below : List Frame} {meth : Method} {c : Code} {dC : Nat → ClassId} {dI : Nat → Nat → Nat} {q : Nat → Nat} {cI cT : ClassId} {en : Nat → Nat} {A : Nat → Prop} {args : Array Value} {Post : Int32 → XS → Prop} {K : Hd_X0_givers_11 → XS → Prop} (X : XX p s m args c cX0_givers 4 ww_X0_givers_11 RX0 dC dI cI cT en A) (hr : meth.sig.returnType = (some .int)) (hlocks : meth.locks = false) (hK0 : ∀ (x1 : Int32) (x2 : Int32) (x3 : Int32) (S : XS), K (x1, x2, x3) S → ∀ (H : Heap) (locs : List Loc), va_P (dC, dI) vwCl (wX q cI cT S) H → va_D A (wX q cI cT S) → va_S A s.heap H locs → ∀ ls : Array Slot, lv_has ls 4 [(0, .ref (q 11)), (1, .int x1), (2, .int x2), (3, .int x3)] → W p l e (headSpec ww_X0_givers_11 ({ frames := 0, cells := 0, slots := 0, locals := 0 } : Room)).room s m args below meth c H locs 0 0 (MQ below (va_Qi Post (atX dC dI q cI cT A) A) args s 0 0 A) (F0 m 4 ls [])) (x1 : Int32) (x2 : Int32) (x3 : Int32) (S : XS) (h : B_X0_givers_11 Post K (x1, x2, x3) S) : ∀ (H : Heap) (locs : List Loc), va_P (dC, dI) vwCl (wX q cI cT S) H → va_D A (wX q cI cT S) → va_S A s.heap H locs → ∀ ls : Array Slot, lv_has ls 4 [(0, .ref (q 11)), (1, .int x1), (2, .int x2), (3, .int x3)] → W p l e (headSpec ww_X0_givers_11 ({ frames := 0, cells := 0, slots := 0, locals := 0 } : Room)).room s m args below meth c H locs 0 0 (MQ below (va_Qi Post (atX dC dI q cI cT A) A) args s 0 0 A) (F0 m 4 ls []) := by
  have hx := X.1
  have hb := X.2.1
  intro H locs hP hD hS ls hl
  have lk25 := X.2.2.2.2.1 (.fieldLink RX0 25 "BreathOnLoan$Bench" "bubbles" "I") (inX 11 rfl)
  have lk18 := X.2.2.2.2.1 (.fieldLink RX0 18 "BreathOnLoan$Bench" "log" "[I") (inX 7 rfl)
  dsimp only [B_X0_givers_11] at h
  refine lv_iload_n hx hb (dk DX0_givers 4 rfl) rfl (lv_at hl 3 rfl) ?_
  refine lv_aload_n hx hb (dk DX0_givers 5 rfl) rfl (lv_at hl 0 rfl) ?_
  refine gX_11 X hP 4 (by decide) rfl lk25 (dk DX0_givers 6 rfl) ?_
  refine lv_icmp_ge (tgt := 45) hx hb (dk DX0_givers 7 rfl) (by decide) (fun hc => ?_) (fun hc => ?_)
  · have h := h.1 hc
    refine lv_iload_n hx hb (dk DX0_givers 31 rfl) rfl (lv_at hl 2 rfl) ?_
    exact W.iret (v := x2) hx hb hr (fun t ht hW => ⟨⟨_, _, rfl, h, by rw [ht]; exact hP, va_K.moved hW.alike X.2.2.2.2.2.2.1, hD⟩, hS.F ht⟩) hS.2.2 (dk DX0_givers 32 rfl)
  · have h := h.2 hc
    refine lv_aload_n hx hb (dk DX0_givers 8 rfl) rfl (lv_at hl 0 rfl) ?_
    refine gX_11 X hP 5 (by decide) rfl lk18 (dk DX0_givers 9 rfl) ?_
    refine lv_iconst (v := 4) hx hb (dk DX0_givers 10 rfl) (by decide) ?_
    refine lv_iload_n hx hb (dk DX0_givers 11 rfl) rfl (lv_at hl 3 rfl) ?_
    refine lv_imul hx hb (dk DX0_givers 12 rfl) ?_
    obtain ⟨hin, h⟩ := h
    refine ldX_14 X hP hin (dk DX0_givers 13 rfl) ?_
    refine lv_iload_n hx hb (dk DX0_givers 14 rfl) rfl (lv_at hl 1 rfl) ?_
    refine lv_icmp_ne (tgt := 39) hx hb (dk DX0_givers 15 rfl) (by decide) (fun hc => ?_) (fun hc => ?_)
    · have h := h.1 hc
      obtain ⟨v1, ev1⟩ : ∃ y : Int32, y = x3 + 1 := ⟨_, rfl⟩
      have h := h v1 ev1
      refine lv_iinc (v := v1) (lv' := [(3, .int v1), (0, .ref (q 11)), (1, .int x1), (2, .int x2)]) hx hb (dk DX0_givers 29 rfl) hl (k := 3) rfl (by rw [ev1]; rfl) (by decide) rfl (fun ls hl => ?_)
      refine lv_goto (tgt := 4) hx hb (dk DX0_givers 30 rfl) (by decide) ?_
      exact hK0 x1 x2 v1 S h _ _ hP hD hS ls (lv_sub hl [1, 2, 3, 0] rfl)
    · have h := h.2 hc
      refine lv_iload_n hx hb (dk DX0_givers 16 rfl) rfl (lv_at hl 2 rfl) ?_
      refine lv_iconst (v := 1) hx hb (dk DX0_givers 17 rfl) (by decide) ?_
      refine lv_aload_n hx hb (dk DX0_givers 18 rfl) rfl (lv_at hl 0 rfl) ?_
      refine gX_11 X hP 5 (by decide) rfl lk18 (dk DX0_givers 19 rfl) ?_
      refine lv_iconst (v := 4) hx hb (dk DX0_givers 20 rfl) (by decide) ?_
      refine lv_iload_n hx hb (dk DX0_givers 21 rfl) rfl (lv_at hl 3 rfl) ?_
      refine lv_imul hx hb (dk DX0_givers 22 rfl) ?_
      refine lv_iconst (v := 1) hx hb (dk DX0_givers 23 rfl) (by decide) ?_
      refine lv_iadd hx hb (dk DX0_givers 24 rfl) ?_
      obtain ⟨hin, h⟩ := h
      refine ldX_14 X hP hin (dk DX0_givers 25 rfl) ?_
      refine lv_ishl hx hb (dk DX0_givers 26 rfl) ?_
      refine lv_ior hx hb (dk DX0_givers 27 rfl) ?_
      refine lv_topi (fun v2 ev2 => ?_)
      have h := h v2 ev2
      refine lv_istore_n (lv' := [(2, .int v2), (0, .ref (q 11)), (1, .int x1), (3, .int x3)]) hx hb (dk DX0_givers 28 rfl) rfl hl (by decide) rfl (fun ls hl => ?_)
      obtain ⟨v3, ev3⟩ : ∃ y : Int32, y = x3 + 1 := ⟨_, rfl⟩
      have h := h v3 ev3
      refine lv_iinc (v := v3) (lv' := [(3, .int v3), (2, .int v2), (0, .ref (q 11)), (1, .int x1)]) hx hb (dk DX0_givers 29 rfl) hl (k := 3) rfl (by rw [ev3]; rfl) (by decide) rfl (fun ls hl => ?_)
      refine lv_goto (tgt := 4) hx hb (dk DX0_givers 30 rfl) (by decide) ?_
      exact hK0 x1 v2 v3 S h _ _ hP hD hS ls (lv_sub hl [2, 3, 1, 0] rfl)
set_option maxHeartbeats 4000000 in
set_option maxRecDepth 100000 in
theorem m_X0_givers_11 {l : Launch} {dC : Nat → ClassId} {dI : Nat → Nat → Nat} {q : Nat → Nat} {cI cT : ClassId} {en : Nat → Nat} {sz : Nat} {Post : Int32 → XS → Prop} (a0 : Int32) (S : XS) (h : VC_X0_givers_11 Post a0 S) : Met l yX0_givers ww_X0_givers_11 ({ frames := 0, cells := 0, slots := 0, locals := 0 } : Room) (va_Pc [.ref (q 11), .int a0] (preX dC dI q cI cT en S sz)) (va_Qi Post (atX dC dI q cI cT (va_A (wX q cI cT S) sz)) (va_A (wX q cI cT S) sz)) 0 0 (va_A (wX q cI cT S) sz) := by
  refine oX (cc := cX0_givers) (maxL := 4) (ret := (some .int)) (Qc := fun A => va_Qi Post (atX dC dI q cI cT A) A) (own := RX0) (by decide) rfl (fun w h => List.mem_cons_of_mem _ (List.mem_append_right _ h)) rfl (Nat.le_of_ble_eq_true rfl) (fun p e s m below meth c A ls X hr hlocks hP hD hS hl => ?_)
  have hx := X.1
  have hb := X.2.1
  have hl : lv_has ls 4 [(0, .ref (q 11)), (1, .int a0)] := hl
  have lk25 := X.2.2.2.2.1 (.fieldLink RX0 25 "BreathOnLoan$Bench" "bubbles" "I") (inX 11 rfl)
  have lk18 := X.2.2.2.2.1 (.fieldLink RX0 18 "BreathOnLoan$Bench" "log" "[I") (inX 7 rfl)
  generalize hargs : ([.ref (q 11), .int a0] : List Value).toArray = args at X ⊢
  have h := h (fun hd S => match hd with | (x1, x2, x3) => ∀ (H : Heap) (locs : List Loc), va_P (dC, dI) vwCl (wX q cI cT S) H → va_D A (wX q cI cT S) → va_S A s.heap H locs → ∀ ls : Array Slot, lv_has ls 4 [(0, .ref (q 11)), (1, .int x1), (2, .int x2), (3, .int x3)] → W p l e (headSpec ww_X0_givers_11 ({ frames := 0, cells := 0, slots := 0, locals := 0 } : Room)).room s m args below meth c H locs 0 0 (MQ below (va_Qi Post (atX dC dI q cI cT A) A) args s 0 0 A) (F0 m 4 ls [])) ?_
  · skip
    refine lv_iconst (v := 0) hx hb (dk DX0_givers 0 rfl) (by decide) ?_
    refine lv_istore_n (lv' := [(2, .int 0), (0, .ref (q 11)), (1, .int a0)]) hx hb (dk DX0_givers 1 rfl) rfl hl (by decide) rfl (fun ls hl => ?_)
    refine lv_iconst (v := 0) hx hb (dk DX0_givers 2 rfl) (by decide) ?_
    refine lv_istore_n (lv' := [(3, .int 0), (2, .int 0), (0, .ref (q 11)), (1, .int a0)]) hx hb (dk DX0_givers 3 rfl) rfl hl (by decide) rfl (fun ls hl => ?_)
    exact h _ _ hP hD hS ls (lv_sub hl [2, 3, 1, 0] rfl)
  · rintro ⟨x1, x2, x3⟩ S hB
    exact h_X0_givers_11_0 X hr hlocks (hK0 := fun _ _ _ _ h => h) x1 x2 x3 S hB

def ww_J7_rangeCheck_23922 : List Cond := .code yJ7_rangeCheck_23922 cJ7_rangeCheck_23922 3 none :: (WdX ++ WsX)
theorem q_J7_rangeCheck_23922 : yJ7_rangeCheck_23922.cls ≠ "java/lang/invoke/MethodHandle" ∧ yJ7_rangeCheck_23922.cls ≠ "java/lang/invoke/VarHandle" ∧ (parseMethodDescriptor yJ7_rangeCheck_23922.desc).map (fun d => d.parameters.length) = some 3 := by decide +kernel
def VC_J7_rangeCheck_23922 (Post : XS → Prop) (a0 : Int32) (a1 : Int32) (a2 : Int32) (S : XS) : Prop := ((a1 ≤ a2 → ((0 ≤ a1 → ((a2 ≤ a0 → Post S) ∧ (¬ a2 ≤ a0 → False))) ∧ (¬ 0 ≤ a1 → False))) ∧ (¬ a1 ≤ a2 → False))
set_option maxHeartbeats 4000000 in
set_option maxRecDepth 100000 in
theorem m_J7_rangeCheck_23922 {l : Launch} {dC : Nat → ClassId} {dI : Nat → Nat → Nat} {q : Nat → Nat} {cI cT : ClassId} {en : Nat → Nat} {sz : Nat} {Post : XS → Prop} (a0 : Int32) (a1 : Int32) (a2 : Int32) (S : XS) (h : VC_J7_rangeCheck_23922 Post a0 a1 a2 S) : Met l yJ7_rangeCheck_23922 ww_J7_rangeCheck_23922 ({ frames := 0, cells := 0, slots := 0, locals := 0 } : Room) (va_Pc [.int a0, .int a1, .int a2] (preX dC dI q cI cT en S sz)) (va_Qv Post (atX dC dI q cI cT (va_A (wX q cI cT S) sz)) (va_A (wX q cI cT S) sz)) 0 0 (va_A (wX q cI cT S) sz) := by
  refine oX (cc := cJ7_rangeCheck_23922) (maxL := 3) (ret := none) (Qc := fun A => va_Qv Post (atX dC dI q cI cT A) A) (own := RJ7) (by decide) rfl (fun w h => List.mem_cons_of_mem _ (List.mem_append_right _ h)) rfl (Nat.le_of_ble_eq_true rfl) (fun p e s m below meth c A ls X hr hlocks hP hD hS hl => ?_)
  have hx := X.1
  have hb := X.2.1
  have hl : lv_has ls 3 [(0, .int a0), (1, .int a1), (2, .int a2)] := hl
  dsimp only [VC_J7_rangeCheck_23922] at h
  refine lv_iload_n hx hb (dk DJ7_rangeCheck_23922 0 rfl) rfl (lv_at hl 1 rfl) ?_
  refine lv_iload_n hx hb (dk DJ7_rangeCheck_23922 1 rfl) rfl (lv_at hl 2 rfl) ?_
  refine lv_icmp_le (tgt := 46) hx hb (dk DJ7_rangeCheck_23922 2 rfl) (by decide) (fun hc => ?_) (fun hc => ?_)
  · have h := h.1 hc
    refine lv_iload_n hx hb (dk DJ7_rangeCheck_23922 21 rfl) rfl (lv_at hl 1 rfl) ?_
    refine lv_if_ge (tgt := 59) hx hb (dk DJ7_rangeCheck_23922 22 rfl) (by decide) (fun hc => ?_) (fun hc => ?_)
    · have h := h.1 hc
      refine lv_iload_n hx hb (dk DJ7_rangeCheck_23922 28 rfl) rfl (lv_at hl 2 rfl) ?_
      refine lv_iload_n hx hb (dk DJ7_rangeCheck_23922 29 rfl) rfl (lv_at hl 0 rfl) ?_
      refine lv_icmp_le (tgt := 73) hx hb (dk DJ7_rangeCheck_23922 30 rfl) (by decide) (fun hc => ?_) (fun hc => ?_)
      · have h := h.1 hc
        exact W.vret hx hb hr (fun t ht hW => ⟨⟨_, rfl, h, by rw [ht]; exact hP, va_K.moved hW.alike X.2.2.2.2.2.2.1, hD⟩, hS.F ht⟩) hS.2.2 (dk DJ7_rangeCheck_23922 36 rfl)
      · have h := h.2 hc
        exact h.elim
    · have h := h.2 hc
      exact h.elim
  · have h := h.2 hc
    exact h.elim

def ww_J7_fill_fda19_16 : List Cond := .code yJ7_fill_fda19 cJ7_fill_fda19 5 none :: (WdX ++ WsX)
theorem q_J7_fill_fda19_16 : yJ7_fill_fda19.cls ≠ "java/lang/invoke/MethodHandle" ∧ yJ7_fill_fda19.cls ≠ "java/lang/invoke/VarHandle" ∧ (parseMethodDescriptor yJ7_fill_fda19.desc).map (fun d => d.parameters.length) = some 4 := by decide +kernel
abbrev Hd_J7_fill_fda19_16 : Type := (Int32 × Int32 × Int32 × Int32)
def B_J7_fill_fda19_16 (Post : XS → Prop) (K : Hd_J7_fill_fda19_16 → XS → Prop) : Hd_J7_fill_fda19_16 → XS → Prop
  | (x1, x2, x3, x4), S => ((x2 ≤ x4 → Post S) ∧ (¬ x2 ≤ x4 → vp_in x4 240 ∧ ∀ S2 : XS, S2 = xF S 16 (upd (S.2.1 16) x4.toNatClampNeg x3) → ∀ v3 : Int32, v3 = x4 + 1 → K (x1, x2, x3, v3) S2))
def VC_J7_fill_fda19_16 (Post : XS → Prop) (a1 : Int32) (a2 : Int32) (a3 : Int32) (S : XS) : Prop := ∀ K : Hd_J7_fill_fda19_16 → XS → Prop, (∀ h S, B_J7_fill_fda19_16 Post K h S → K h S) → VC_J7_rangeCheck_23922 (fun S1 => K (a1, a2, a3, a1) S1) 240 a1 a2 S
set_option maxHeartbeats 4000000 in
set_option maxRecDepth 100000 in
theorem h_J7_fill_fda19_16_0 {p : Program} {l : Launch} {e : Env} {s : State} {m : MethodId} {below : List Frame} {meth : Method} {c : Code} {dC : Nat → ClassId} {dI : Nat → Nat → Nat} {q : Nat → Nat} {cI cT : ClassId} {en : Nat → Nat} {A : Nat → Prop} {args : Array Value} {Post : XS → Prop} {K : Hd_J7_fill_fda19_16 → XS → Prop} (X : XX p s m args c cJ7_fill_fda19 5 ww_J7_fill_fda19_16 RJ7 dC dI cI cT en A) (hr : meth.sig.returnType = none) (hlocks : meth.locks = false) (hK0 : ∀ (x1 : Int32) (x2 : Int32) (x3 : Int32) (x4 : Int32) (S : XS), K (x1, x2, x3, x4) S → ∀ (H : Heap) (locs : List Loc), va_P (dC, dI) vwCl (wX q cI cT S) H → va_D A (wX q cI cT S) → va_S A s.heap H locs → ∀ ls : Array Slot, lv_has ls 5 [(0, .ref (q 16)), (1, .int x1), (2, .int x2), (3, .int x3), (4, .int x4)] → W p l e (headSpec ww_J7_fill_fda19_16 ({ frames := 1, cells := 0, slots := 0, locals := 22 } : Room)).room s m args below meth c H locs 0 0 (MQ below (va_Qv Post (atX dC dI q cI cT A) A) args s 0 0 A) (F0 m 10 ls [])) (x1 : Int32) (x2 : Int32) (x3 : Int32) (x4 : Int32) (S : XS) (h : B_J7_fill_fda19_16 Post K (x1, x2, x3, x4) S) : ∀ (H : Heap) (locs : List Loc), va_P (dC, dI) vwCl (wX q cI cT S) H → va_D A (wX q cI cT S) → va_S A s.heap H locs → ∀ ls : Array Slot, lv_has ls 5 [(0, .ref (q 16)), (1, .int x1), (2, .int x2), (3, .int x3), (4, .int x4)] → W p l e (headSpec ww_J7_fill_fda19_16 ({ frames := 1, cells := 0, slots := 0, locals := 22 } : Room)).room s m args below meth c H locs 0 0 (MQ below (va_Qv Post (atX dC dI q cI cT A) A) args s 0 0 A) (F0 m 10 ls []) := by
  have hx := X.1
  have hb := X.2.1
  intro H locs hP hD hS ls hl
  dsimp only [B_J7_fill_fda19_16] at h
  refine lv_iload hx hb (dk DJ7_fill_fda19 7 rfl) (lv_at hl 4 rfl) ?_
  refine lv_iload_n hx hb (dk DJ7_fill_fda19 8 rfl) rfl (lv_at hl 2 rfl) ?_
  refine lv_icmp_ge (tgt := 27) hx hb (dk DJ7_fill_fda19 9 rfl) (by decide) (fun hc => ?_) (fun hc => ?_)
  · have h := h.1 hc
    exact W.vret hx hb hr (fun t ht hW => ⟨⟨_, rfl, h, by rw [ht]; exact hP, va_K.moved hW.alike X.2.2.2.2.2.2.1, hD⟩, hS.F ht⟩) hS.2.2 (dk DJ7_fill_fda19 16 rfl)
  · have h := h.2 hc
    refine lv_aload_n hx hb (dk DJ7_fill_fda19 10 rfl) rfl (lv_at hl 0 rfl) ?_
    refine lv_iload hx hb (dk DJ7_fill_fda19 11 rfl) (lv_at hl 4 rfl) ?_
    refine lv_iload_n hx hb (dk DJ7_fill_fda19 12 rfl) rfl (lv_at hl 3 rfl) ?_
    obtain ⟨hin, h⟩ := h
    refine stX_16 X hP hD hS hin (dk DJ7_fill_fda19 13 rfl) (fun S2 eS2 H locs hP hD hS => ?_)
    have h := h S2 eS2
    obtain ⟨v3, ev3⟩ : ∃ y : Int32, y = x4 + 1 := ⟨_, rfl⟩
    have h := h v3 ev3
    refine lv_iinc (v := v3) (lv' := [(4, .int v3), (0, .ref (q 16)), (1, .int x1), (2, .int x2), (3, .int x3)]) hx hb (dk DJ7_fill_fda19 14 rfl) hl (k := 4) rfl (by rw [ev3]; rfl) (by decide) rfl (fun ls hl => ?_)
    refine lv_goto (tgt := 10) hx hb (dk DJ7_fill_fda19 15 rfl) (by decide) ?_
    exact hK0 x1 x2 x3 v3 S2 h _ _ hP hD hS ls (lv_sub hl [1, 2, 3, 4, 0] rfl)
set_option maxHeartbeats 4000000 in
set_option maxRecDepth 100000 in
theorem m_J7_fill_fda19_16 {l : Launch} {dC : Nat → ClassId} {dI : Nat → Nat → Nat} {q : Nat → Nat} {cI cT : ClassId} {en : Nat → Nat} {sz : Nat} {Post : XS → Prop} (a1 : Int32) (a2 : Int32) (a3 : Int32) (S : XS) (h : VC_J7_fill_fda19_16 Post a1 a2 a3 S) : Met l yJ7_fill_fda19 ww_J7_fill_fda19_16 ({ frames := 1, cells := 0, slots := 0, locals := 22 } : Room) (va_Pc [.ref (q 16), .int a1, .int a2, .int a3] (preX dC dI q cI cT en S sz)) (va_Qv Post (atX dC dI q cI cT (va_A (wX q cI cT S) sz)) (va_A (wX q cI cT S) sz)) 0 0 (va_A (wX q cI cT S) sz) := by
  refine oX (cc := cJ7_fill_fda19) (maxL := 5) (ret := none) (Qc := fun A => va_Qv Post (atX dC dI q cI cT A) A) (own := RJ7) (by decide) rfl (fun w h => List.mem_cons_of_mem _ (List.mem_append_right _ h)) rfl (Nat.le_of_ble_eq_true rfl) (fun p e s m below meth c A ls X hr hlocks hP hD hS hl => ?_)
  have hx := X.1
  have hb := X.2.1
  have hl : lv_has ls 5 [(0, .ref (q 16)), (1, .int a1), (2, .int a2), (3, .int a3)] := hl
  generalize hargs : ([.ref (q 16), .int a1, .int a2, .int a3] : List Value).toArray = args at X ⊢
  have h := h (fun hd S => match hd with | (x1, x2, x3, x4) => ∀ (H : Heap) (locs : List Loc), va_P (dC, dI) vwCl (wX q cI cT S) H → va_D A (wX q cI cT S) → va_S A s.heap H locs → ∀ ls : Array Slot, lv_has ls 5 [(0, .ref (q 16)), (1, .int x1), (2, .int x2), (3, .int x3), (4, .int x4)] → W p l e (headSpec ww_J7_fill_fda19_16 ({ frames := 1, cells := 0, slots := 0, locals := 22 } : Room)).room s m args below meth c H locs 0 0 (MQ below (va_Qv Post (atX dC dI q cI cT A) A) args s 0 0 A) (F0 m 10 ls [])) ?_
  · skip
    refine lv_aload_n hx hb (dk DJ7_fill_fda19 0 rfl) rfl (lv_at hl 0 rfl) ?_
    refine alX_16 X hP (dk DJ7_fill_fda19 1 rfl) ?_
    refine lv_iload_n hx hb (dk DJ7_fill_fda19 2 rfl) rfl (lv_at hl 1 rfl) ?_
    refine lv_iload_n hx hb (dk DJ7_fill_fda19 3 rfl) rfl (lv_at hl 2 rfl) ?_
    refine cXsv (As := [.int 240, .int a1, .int a2]) (rest := []) X (m_J7_rangeCheck_23922 (l := l) (dC := dC) (dI := dI) (q := q) (cI := cI) (cT := cT) (en := en) (sz := _) 240 a1 a2 S h) (va_cwS 3 X.2.2.2.2.1 (gxS 546 547 402 544 rfl rfl rfl rfl) rfl rfl rfl q_J7_rangeCheck_23922 ⟨Nat.le_of_ble_eq_true rfl, Nat.le_of_ble_eq_true rfl⟩) hP hD hS rfl hl.1 rfl (Nat.le_of_ble_eq_true rfl) (dk DJ7_fill_fda19 4 rfl) (fun S1 H locs h hP hD hS => ?_)
    refine lv_iload_n hx hb (dk DJ7_fill_fda19 5 rfl) rfl (lv_at hl 1 rfl) ?_
    refine lv_istore (lv' := [(4, .int a1), (0, .ref (q 16)), (1, .int a1), (2, .int a2), (3, .int a3)]) hx hb (dk DJ7_fill_fda19 6 rfl) hl (by decide) rfl (fun ls hl => ?_)
    exact h _ _ hP hD hS ls (lv_sub hl [1, 2, 3, 4, 0] rfl)
  · rintro ⟨x1, x2, x3, x4⟩ S hB
    exact h_J7_fill_fda19_16_0 X hr hlocks (hK0 := fun _ _ _ _ _ h => h) x1 x2 x3 x4 S hB

def ww_X6_push_15 : List Cond := .code yX6_push cX6_push 4 (some .int) :: (WdX ++ WsX)
theorem q_X6_push_15 : yX6_push.cls = RX6 ∧ yX6_push.cls ≠ "java/lang/invoke/MethodHandle" ∧ yX6_push.cls ≠ "java/lang/invoke/VarHandle" ∧ (parseMethodDescriptor yX6_push.desc).map (fun d => d.parameters.length) = some 2 := by decide +kernel
abbrev Hd_X6_push_15 : Type := (Int32 × Int32)
def B_X6_push_15 (Post : Int32 → XS → Prop) (K : Hd_X6_push_15 → XS → Prop) : Hd_X6_push_15 → XS → Prop
  | (x1, x2), S => ¬ (30 : Int32) = 0 ∧ ∀ v5 : Int32, v5 = 8 * (((S.1 480) + (S.1 481)) - ((S.1 480) + (S.1 481)) / 30 * 30) → VC_J7_fill_fda19_16 (fun S6 => vp_in v5 240 ∧ ∀ S7 : XS, S7 = xF S6 16 (upd (S6.2.1 16) v5.toNatClampNeg x1) → vp_in (v5 + 1) 240 ∧ ∀ S8 : XS, S8 = xF S7 16 (upd (S7.2.1 16) (v5 + 1).toNatClampNeg x2) → ∀ v9 : Int32, v9 = (S8.1 481) + 1 → ∀ S10 : XS, S10 = xI S8 481 v9 → Post v5 S10) v5 (v5 + 8) 0 S
def VC_X6_push_15 (Post : Int32 → XS → Prop) (a0 : Int32) (a1 : Int32) (S : XS) : Prop := ∀ K : Hd_X6_push_15 → XS → Prop, (∀ h S, B_X6_push_15 Post K h S → K h S) → ((¬ (S.1 481) = 30 → K (a0, a1) S) ∧ ((S.1 481) = 30 → ¬ (30 : Int32) = 0 ∧ ∀ v1 : Int32, v1 = ((S.1 480) + 1) - ((S.1 480) + 1) / 30 * 30 → ∀ S2 : XS, S2 = xI S 480 v1 → ∀ v3 : Int32, v3 = (S2.1 481) - 1 → ∀ S4 : XS, S4 = xI S2 481 v3 → K (a0, a1) S4))
set_option maxHeartbeats 4000000 in
set_option maxRecDepth 100000 in
theorem h_X6_push_15_0 {p : Program} {l : Launch} {e : Env} {s : State} {m : MethodId} {below : List Frame} {meth : Method} {c : Code} {dC : Nat → ClassId} {dI : Nat → Nat → Nat} {q : Nat → Nat} {cI cT : ClassId} {en : Nat → Nat} {A : Nat → Prop} {args : Array Value} {Post : Int32 → XS → Prop} {K : Hd_X6_push_15 → XS → Prop} (X : XX p s m args c cX6_push 4 ww_X6_push_15 RX6 dC dI cI cT en A) (hr : meth.sig.returnType = (some .int)) (hlocks : meth.locks = false) (hK0 : ∀ (x1 : Int32) (x2 : Int32) (S : XS), K (x1, x2) S → ∀ (H : Heap) (locs : List Loc), va_P (dC, dI) vwCl (wX q cI cT S) H → va_D A (wX q cI cT S) → va_S A s.heap H locs → ∀ ls : Array Slot, lv_has ls 4 [(0, .ref (q 15)), (1, .int x1), (2, .int x2)] → W p l e (headSpec ww_X6_push_15 ({ frames := 2, cells := 0, slots := 0, locals := 46 } : Room)).room s m args below meth c H locs 0 0 (MQ below (va_Qi Post (atX dC dI q cI cT A) A) args s 0 0 A) (F0 m 32 ls [])) (x1 : Int32) (x2 : Int32) (S : XS) (h : B_X6_push_15 Post K (x1, x2) S) : ∀ (H : Heap) (locs : List Loc), va_P (dC, dI) vwCl (wX q cI cT S) H → va_D A (wX q cI cT S) → va_S A s.heap H locs → ∀ ls : Array Slot, lv_has ls 4 [(0, .ref (q 15)), (1, .int x1), (2, .int x2)] → W p l e (headSpec ww_X6_push_15 ({ frames := 2, cells := 0, slots := 0, locals := 46 } : Room)).room s m args below meth c H locs 0 0 (MQ below (va_Qi Post (atX dC dI q cI cT A) A) args s 0 0 A) (F0 m 32 ls []) := by
  have hx := X.1
  have hb := X.2.1
  intro H locs hP hD hS ls hl
  have lk15 := X.2.2.2.2.1 (.fieldLink RX6 15 "BreathOnLoan$Steps" "count" "I") (inX 524 rfl)
  have lk19 := X.2.2.2.2.1 (.fieldLink RX6 19 "BreathOnLoan$Steps" "first" "I") (inX 523 rfl)
  have lk11 := X.2.2.2.2.1 (.fieldLink RX6 11 "BreathOnLoan$Steps" "rows" "[I") (inX 480 rfl)
  dsimp only [B_X6_push_15] at h
  refine lv_bipush (v := 8) hx hb (dk DX6_push 18 rfl) (by decide) ?_
  refine lv_aload_n hx hb (dk DX6_push 19 rfl) rfl (lv_at hl 0 rfl) ?_
  refine gX_15 X hP 0 (by decide) rfl lk19 (dk DX6_push 20 rfl) ?_
  refine lv_aload_n hx hb (dk DX6_push 21 rfl) rfl (lv_at hl 0 rfl) ?_
  refine gX_15 X hP 1 (by decide) rfl lk15 (dk DX6_push 22 rfl) ?_
  refine lv_iadd hx hb (dk DX6_push 23 rfl) ?_
  refine lv_bipush (v := 30) hx hb (dk DX6_push 24 rfl) (by decide) ?_
  obtain ⟨hz, h⟩ := h
  refine lv_irem hx hb (dk DX6_push 25 rfl) hz ?_
  refine lv_imul hx hb (dk DX6_push 26 rfl) ?_
  refine lv_topi (fun v5 ev5 => ?_)
  have h := h v5 ev5
  refine lv_istore_n (lv' := [(3, .int v5), (0, .ref (q 15)), (1, .int x1), (2, .int x2)]) hx hb (dk DX6_push 27 rfl) rfl hl (by decide) rfl (fun ls hl => ?_)
  refine lv_aload_n hx hb (dk DX6_push 28 rfl) rfl (lv_at hl 1 rfl) ?_
  refine gX_15 X hP 2 (by decide) rfl lk11 (dk DX6_push 29 rfl) ?_
  refine lv_iload_n hx hb (dk DX6_push 30 rfl) rfl (lv_at hl 0 rfl) ?_
  refine lv_iload_n hx hb (dk DX6_push 31 rfl) rfl (lv_at hl 0 rfl) ?_
  refine lv_bipush (v := 8) hx hb (dk DX6_push 32 rfl) (by decide) ?_
  refine lv_iadd hx hb (dk DX6_push 33 rfl) ?_
  refine lv_iconst (v := 0) hx hb (dk DX6_push 34 rfl) (by decide) ?_
  refine cXsv (As := [.ref (q 16), .int v5, .int (v5 + 8), .int 0]) (rest := []) X (m_J7_fill_fda19_16 (l := l) (dC := dC) (dI := dI) (q := q) (cI := cI) (cT := cT) (en := en) (sz := _) v5 (v5 + 8) 0 S h) (va_cwS 4 X.2.2.2.2.1 (gxS 549 550 402 545 rfl rfl rfl rfl) rfl rfl rfl q_J7_fill_fda19_16 ⟨Nat.le_of_ble_eq_true rfl, Nat.le_of_ble_eq_true rfl⟩) hP hD hS rfl hl.1 rfl (Nat.le_of_ble_eq_true rfl) (dk DX6_push 35 rfl) (fun S6 H locs h hP hD hS => ?_)
  refine lv_aload_n hx hb (dk DX6_push 36 rfl) rfl (lv_at hl 1 rfl) ?_
  refine gX_15 X hP 2 (by decide) rfl lk11 (dk DX6_push 37 rfl) ?_
  refine lv_iload_n hx hb (dk DX6_push 38 rfl) rfl (lv_at hl 0 rfl) ?_
  refine lv_iload_n hx hb (dk DX6_push 39 rfl) rfl (lv_at hl 2 rfl) ?_
  obtain ⟨hin, h⟩ := h
  refine stX_16 X hP hD hS hin (dk DX6_push 40 rfl) (fun S7 eS7 H locs hP hD hS => ?_)
  have h := h S7 eS7
  refine lv_aload_n hx hb (dk DX6_push 41 rfl) rfl (lv_at hl 1 rfl) ?_
  refine gX_15 X hP 2 (by decide) rfl lk11 (dk DX6_push 42 rfl) ?_
  refine lv_iload_n hx hb (dk DX6_push 43 rfl) rfl (lv_at hl 0 rfl) ?_
  refine lv_iconst (v := 1) hx hb (dk DX6_push 44 rfl) (by decide) ?_
  refine lv_iadd hx hb (dk DX6_push 45 rfl) ?_
  refine lv_iload_n hx hb (dk DX6_push 46 rfl) rfl (lv_at hl 3 rfl) ?_
  obtain ⟨hin, h⟩ := h
  refine stX_16 X hP hD hS hin (dk DX6_push 47 rfl) (fun S8 eS8 H locs hP hD hS => ?_)
  have h := h S8 eS8
  refine lv_aload_n hx hb (dk DX6_push 48 rfl) rfl (lv_at hl 1 rfl) ?_
  refine lv_dup hx hb (dk DX6_push 49 rfl) rfl ?_
  refine gX_15 X hP 1 (by decide) rfl lk15 (dk DX6_push 50 rfl) ?_
  refine lv_iconst (v := 1) hx hb (dk DX6_push 51 rfl) (by decide) ?_
  refine lv_iadd hx hb (dk DX6_push 52 rfl) ?_
  refine lv_topi (fun v9 ev9 => ?_)
  have h := h v9 ev9
  refine pX_15_1 X hP hD hS lk15 (dk DX6_push 53 rfl) (fun S10 eS10 H locs hP hD hS => ?_)
  have h := h S10 eS10
  refine lv_iload_n hx hb (dk DX6_push 54 rfl) rfl (lv_at hl 0 rfl) ?_
  exact W.iret (v := v5) hx hb hr (fun t ht hW => ⟨⟨_, _, rfl, h, by rw [ht]; exact hP, va_K.moved hW.alike X.2.2.2.2.2.2.1, hD⟩, hS.F ht⟩) hS.2.2 (dk DX6_push 55 rfl)
set_option maxHeartbeats 4000000 in
set_option maxRecDepth 100000 in
theorem m_X6_push_15 {l : Launch} {dC : Nat → ClassId} {dI : Nat → Nat → Nat} {q : Nat → Nat} {cI cT : ClassId} {en : Nat → Nat} {sz : Nat} {Post : Int32 → XS → Prop} (a0 : Int32) (a1 : Int32) (S : XS) (h : VC_X6_push_15 Post a0 a1 S) : Met l yX6_push ww_X6_push_15 ({ frames := 2, cells := 0, slots := 0, locals := 46 } : Room) (va_Pc [.ref (q 15), .int a0, .int a1] (preX dC dI q cI cT en S sz)) (va_Qi Post (atX dC dI q cI cT (va_A (wX q cI cT S) sz)) (va_A (wX q cI cT S) sz)) 0 0 (va_A (wX q cI cT S) sz) := by
  refine oX (cc := cX6_push) (maxL := 4) (ret := (some .int)) (Qc := fun A => va_Qi Post (atX dC dI q cI cT A) A) (own := RX6) (by decide) rfl (fun w h => List.mem_cons_of_mem _ (List.mem_append_right _ h)) rfl (Nat.le_of_ble_eq_true rfl) (fun p e s m below meth c A ls X hr hlocks hP hD hS hl => ?_)
  have hx := X.1
  have hb := X.2.1
  have hl : lv_has ls 4 [(0, .ref (q 15)), (1, .int a0), (2, .int a1)] := hl
  have lk15 := X.2.2.2.2.1 (.fieldLink RX6 15 "BreathOnLoan$Steps" "count" "I") (inX 524 rfl)
  have lk19 := X.2.2.2.2.1 (.fieldLink RX6 19 "BreathOnLoan$Steps" "first" "I") (inX 523 rfl)
  have lk11 := X.2.2.2.2.1 (.fieldLink RX6 11 "BreathOnLoan$Steps" "rows" "[I") (inX 480 rfl)
  generalize hargs : ([.ref (q 15), .int a0, .int a1] : List Value).toArray = args at X ⊢
  have h := h (fun hd S => match hd with | (x1, x2) => ∀ (H : Heap) (locs : List Loc), va_P (dC, dI) vwCl (wX q cI cT S) H → va_D A (wX q cI cT S) → va_S A s.heap H locs → ∀ ls : Array Slot, lv_has ls 4 [(0, .ref (q 15)), (1, .int x1), (2, .int x2)] → W p l e (headSpec ww_X6_push_15 ({ frames := 2, cells := 0, slots := 0, locals := 46 } : Room)).room s m args below meth c H locs 0 0 (MQ below (va_Qi Post (atX dC dI q cI cT A) A) args s 0 0 A) (F0 m 32 ls [])) ?_
  · skip
    refine lv_aload_n hx hb (dk DX6_push 0 rfl) rfl (lv_at hl 0 rfl) ?_
    refine gX_15 X hP 1 (by decide) rfl lk15 (dk DX6_push 1 rfl) ?_
    refine lv_bipush (v := 30) hx hb (dk DX6_push 2 rfl) (by decide) ?_
    refine lv_icmp_ne (tgt := 32) hx hb (dk DX6_push 3 rfl) (by decide) (fun hc => ?_) (fun hc => ?_)
    · have h := h.1 hc
      exact h _ _ hP hD hS ls (lv_sub hl [0, 1, 2] rfl)
    · have h := h.2 hc
      refine lv_aload_n hx hb (dk DX6_push 4 rfl) rfl (lv_at hl 0 rfl) ?_
      refine lv_aload_n hx hb (dk DX6_push 5 rfl) rfl (lv_at hl 0 rfl) ?_
      refine gX_15 X hP 0 (by decide) rfl lk19 (dk DX6_push 6 rfl) ?_
      refine lv_iconst (v := 1) hx hb (dk DX6_push 7 rfl) (by decide) ?_
      refine lv_iadd hx hb (dk DX6_push 8 rfl) ?_
      refine lv_bipush (v := 30) hx hb (dk DX6_push 9 rfl) (by decide) ?_
      obtain ⟨hz, h⟩ := h
      refine lv_irem hx hb (dk DX6_push 10 rfl) hz ?_
      refine lv_topi (fun v1 ev1 => ?_)
      have h := h v1 ev1
      refine pX_15_0 X hP hD hS lk19 (dk DX6_push 11 rfl) (fun S2 eS2 H locs hP hD hS => ?_)
      have h := h S2 eS2
      refine lv_aload_n hx hb (dk DX6_push 12 rfl) rfl (lv_at hl 0 rfl) ?_
      refine lv_dup hx hb (dk DX6_push 13 rfl) rfl ?_
      refine gX_15 X hP 1 (by decide) rfl lk15 (dk DX6_push 14 rfl) ?_
      refine lv_iconst (v := 1) hx hb (dk DX6_push 15 rfl) (by decide) ?_
      refine lv_isub hx hb (dk DX6_push 16 rfl) ?_
      refine lv_topi (fun v3 ev3 => ?_)
      have h := h v3 ev3
      refine pX_15_1 X hP hD hS lk15 (dk DX6_push 17 rfl) (fun S4 eS4 H locs hP hD hS => ?_)
      have h := h S4 eS4
      exact h _ _ hP hD hS ls (lv_sub hl [0, 1, 2] rfl)
  · rintro ⟨x1, x2⟩ S hB
    exact h_X6_push_15_0 X hr hlocks (hK0 := fun _ _ _ h => h) x1 x2 S hB

